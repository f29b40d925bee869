/-! the methods -/
abbrev kk_X0_init : mI := (yX0_init, cX0_init, 4, none, 1, 20, none)
abbrev kk_X0_find : mI := (yX0_find, cX0_find, 5, none, 5, 120, none)
theorem mt_X0_find : m_MV kk_X0_find 0 := ⟨m_in4 (List.mem_of_getElem? (i := 60) rfl) rfl, m_in1 (List.mem_of_getElem? (i := 9) rfl) rfl, ⟨by decide +kernel, by decide +kernel, by decide +kernel⟩, m_in4 (List.mem_of_getElem? (i := 58) rfl) rfl, m_in4 (List.mem_of_getElem? (i := 59) rfl) rfl⟩
abbrev kk_X0_endsFair : mI := (yX0_endsFair, cX0_endsFair, 2, some .boolean, 4, 99, none)
theorem mt_X0_endsFair : m_MV kk_X0_endsFair 1 := ⟨m_in4 (List.mem_of_getElem? (i := 76) rfl) rfl, m_in1 (List.mem_of_getElem? (i := 9) rfl) rfl, ⟨by decide +kernel, by decide +kernel, by decide +kernel⟩, m_in4 (List.mem_of_getElem? (i := 75) rfl) rfl, m_inS (List.mem_of_getElem? (i := 28) rfl) rfl⟩
abbrev kk_X0_leftAlready : mI := (yX0_leftAlready, cX0_leftAlready, 4, some .int, 0, 0, none)
theorem mt_X0_leftAlready : m_MV kk_X0_leftAlready 0 := ⟨m_in4 (List.mem_of_getElem? (i := 66) rfl) rfl, m_in1 (List.mem_of_getElem? (i := 9) rfl) rfl, ⟨by decide +kernel, by decide +kernel, by decide +kernel⟩, m_in4 (List.mem_of_getElem? (i := 65) rfl) rfl, m_inS (List.mem_of_getElem? (i := 27) rfl) rfl⟩
abbrev kk_X0_leaveOut : mI := (yX0_leaveOut, cX0_leaveOut, 5, none, 0, 0, none)
theorem mt_X0_leaveOut : m_MV kk_X0_leaveOut 1 := ⟨m_in4 (List.mem_of_getElem? (i := 80) rfl) rfl, m_in1 (List.mem_of_getElem? (i := 9) rfl) rfl, ⟨by decide +kernel, by decide +kernel, by decide +kernel⟩, m_in4 (List.mem_of_getElem? (i := 79) rfl) rfl, m_inS (List.mem_of_getElem? (i := 29) rfl) rfl⟩
abbrev kk_X1_init : mI := (yX1_init, cX1_init, 1, none, 1, 20, none)
abbrev kk_X1_most : mI := (yX1_most, cX1_most, 1, some .int, 0, 0, none)
theorem mt_X1_most : m_MS kk_X1_most 1 := ⟨m_in2 (List.mem_of_getElem? (i := 209) rfl) rfl, m_in1 (List.mem_of_getElem? (i := 3) rfl) rfl, ⟨by decide +kernel, by decide +kernel, by decide +kernel⟩, m_in2 (List.mem_of_getElem? (i := 208) rfl) rfl⟩
abbrev kk_X1_put : mI := (yX1_put, cX1_put, 4, some .int, 0, 0, none)
theorem mt_X1_put : m_MV kk_X1_put 2 := ⟨m_in2 (List.mem_of_getElem? (i := 213) rfl) rfl, m_in1 (List.mem_of_getElem? (i := 3) rfl) rfl, ⟨by decide +kernel, by decide +kernel, by decide +kernel⟩, m_in2 (List.mem_of_getElem? (i := 211) rfl) rfl, m_in2 (List.mem_of_getElem? (i := 212) rfl) rfl⟩
abbrev kk_X1_take : mI := (yX1_take, cX1_take, 2, none, 1, 60, none)
theorem mt_X1_take : m_MV kk_X1_take 1 := ⟨m_in3 (List.mem_of_getElem? (i := 26) rfl) rfl, m_in1 (List.mem_of_getElem? (i := 3) rfl) rfl, ⟨by decide +kernel, by decide +kernel, by decide +kernel⟩, m_in3 (List.mem_of_getElem? (i := 24) rfl) rfl, m_in3 (List.mem_of_getElem? (i := 25) rfl) rfl⟩
abbrev kk_X1_isThere : mI := (yX1_isThere, cX1_isThere, 2, some .boolean, 0, 0, none)
theorem mt_X1_isThere : m_MV kk_X1_isThere 1 := ⟨m_in3 (List.mem_of_getElem? (i := 69) rfl) rfl, m_in1 (List.mem_of_getElem? (i := 3) rfl) rfl, ⟨by decide +kernel, by decide +kernel, by decide +kernel⟩, m_in3 (List.mem_of_getElem? (i := 67) rfl) rfl, m_in3 (List.mem_of_getElem? (i := 68) rfl) rfl⟩
abbrev kk_X1_worthOf : mI := (yX1_worthOf, cX1_worthOf, 7, some .int, 0, 0, none)
theorem mt_X1_worthOf : m_MV kk_X1_worthOf 1 := ⟨m_in3 (List.mem_of_getElem? (i := 56) rfl) rfl, m_in1 (List.mem_of_getElem? (i := 3) rfl) rfl, ⟨by decide +kernel, by decide +kernel, by decide +kernel⟩, m_in3 (List.mem_of_getElem? (i := 54) rfl) rfl, m_in3 (List.mem_of_getElem? (i := 55) rfl) rfl⟩
abbrev kk_X1_firstMet : mI := (yX1_firstMet, cX1_firstMet, 4, some .int, 1, 21, none)
theorem mt_X1_firstMet : m_MV kk_X1_firstMet 2 := ⟨m_in3 (List.mem_of_getElem? (i := 65) rfl) rfl, m_in1 (List.mem_of_getElem? (i := 3) rfl) rfl, ⟨by decide +kernel, by decide +kernel, by decide +kernel⟩, m_in3 (List.mem_of_getElem? (i := 63) rfl) rfl, m_in3 (List.mem_of_getElem? (i := 64) rfl) rfl⟩
abbrev kk_X2_init : mI := (yX2_init, cX2_init, 3, none, 1, 20, none)
abbrev kk_X2_compare : mI := (yX2_compare, cX2_compare, 3, none, 4, 99, none)
theorem mt_X2_compare : m_MV kk_X2_compare 0 := ⟨m_in4 (List.mem_of_getElem? (i := 10) rfl) rfl, m_in1 (List.mem_of_getElem? (i := 8) rfl) rfl, ⟨by decide +kernel, by decide +kernel, by decide +kernel⟩, m_in4 (List.mem_of_getElem? (i := 8) rfl) rfl, m_in4 (List.mem_of_getElem? (i := 9) rfl) rfl⟩
abbrev kk_X2_note : mI := (yX2_note, cX2_note, 3, none, 1, 60, none)
theorem mt_X2_note : m_MV kk_X2_note 2 := ⟨m_in4 (List.mem_of_getElem? (i := 21) rfl) rfl, m_in1 (List.mem_of_getElem? (i := 8) rfl) rfl, ⟨by decide +kernel, by decide +kernel, by decide +kernel⟩, m_in4 (List.mem_of_getElem? (i := 20) rfl) rfl, m_inS (List.mem_of_getElem? (i := 24) rfl) rfl⟩
abbrev kk_X2_stepOn : mI := (yX2_stepOn, cX2_stepOn, 5, some .boolean, 1, 23, none)
theorem mt_X2_stepOn : m_MV kk_X2_stepOn 0 := ⟨m_in4 (List.mem_of_getElem? (i := 25) rfl) rfl, m_in1 (List.mem_of_getElem? (i := 8) rfl) rfl, ⟨by decide +kernel, by decide +kernel, by decide +kernel⟩, m_in4 (List.mem_of_getElem? (i := 24) rfl) rfl, m_inS (List.mem_of_getElem? (i := 25) rfl) rfl⟩
abbrev kk_X2_exchange : mI := (yX2_exchange, cX2_exchange, 4, none, 0, 0, none)
theorem mt_X2_exchange : m_MV kk_X2_exchange 2 := ⟨m_in4 (List.mem_of_getElem? (i := 29) rfl) rfl, m_in1 (List.mem_of_getElem? (i := 8) rfl) rfl, ⟨by decide +kernel, by decide +kernel, by decide +kernel⟩, m_in4 (List.mem_of_getElem? (i := 28) rfl) rfl, m_inS (List.mem_of_getElem? (i := 26) rfl) rfl⟩
abbrev kk_X3_one : mI := (yX3_one, cX3_one, 1, some .int, 0, 0, none)
theorem mt_X3_one : m_MS kk_X3_one 1 := ⟨m_in2 (List.mem_of_getElem? (i := 194) rfl) rfl, m_in1 (List.mem_of_getElem? (i := 12) rfl) rfl, ⟨by decide +kernel, by decide +kernel, by decide +kernel⟩, m_in2 (List.mem_of_getElem? (i := 193) rfl) rfl⟩
abbrev kk_X3_of : mI := (yX3_of, cX3_of, 2, some .int, 0, 0, none)
theorem mt_X3_of : m_MS kk_X3_of 2 := ⟨m_in3 (List.mem_of_getElem? (i := 36) rfl) rfl, m_in1 (List.mem_of_getElem? (i := 12) rfl) rfl, ⟨by decide +kernel, by decide +kernel, by decide +kernel⟩, m_in3 (List.mem_of_getElem? (i := 35) rfl) rfl⟩
abbrev kk_X3_cover : mI := (yX3_cover, cX3_cover, 2, some .boolean, 0, 0, none)
theorem mt_X3_cover : m_MS kk_X3_cover 2 := ⟨m_in3 (List.mem_of_getElem? (i := 72) rfl) rfl, m_in1 (List.mem_of_getElem? (i := 12) rfl) rfl, ⟨by decide +kernel, by decide +kernel, by decide +kernel⟩, m_in3 (List.mem_of_getElem? (i := 71) rfl) rfl⟩
abbrev kk_X4_init : mI := (yX4_init, cX4_init, 2, none, 1, 20, none)
abbrev kk_X4_runAsItIs : mI := (yX4_runAsItIs, cX4_runAsItIs, 1, none, 4, 99, none)
theorem mt_X4_runAsItIs : m_MV kk_X4_runAsItIs 0 := ⟨m_in3 (List.mem_of_getElem? (i := 101) rfl) rfl, m_in1 (List.mem_of_getElem? (i := 5) rfl) rfl, ⟨by decide +kernel, by decide +kernel, by decide +kernel⟩, m_in3 (List.mem_of_getElem? (i := 99) rfl) rfl, m_in3 (List.mem_of_getElem? (i := 100) rfl) rfl⟩
abbrev kk_X4_gainWith : mI := (yX4_gainWith, cX4_gainWith, 4, some .int, 4, 99, none)
theorem mt_X4_gainWith : m_MV kk_X4_gainWith 3 := ⟨m_in4 (List.mem_of_getElem? (i := 47) rfl) rfl, m_in1 (List.mem_of_getElem? (i := 5) rfl) rfl, ⟨by decide +kernel, by decide +kernel, by decide +kernel⟩, m_in4 (List.mem_of_getElem? (i := 45) rfl) rfl, m_in4 (List.mem_of_getElem? (i := 46) rfl) rfl⟩
abbrev kk_X4_gainOf : mI := (yX4_gainOf, cX4_gainOf, 2, some .int, 0, 0, none)
theorem mt_X4_gainOf : m_MV kk_X4_gainOf 1 := ⟨m_in4 (List.mem_of_getElem? (i := 38) rfl) rfl, m_in1 (List.mem_of_getElem? (i := 5) rfl) rfl, ⟨by decide +kernel, by decide +kernel, by decide +kernel⟩, m_in4 (List.mem_of_getElem? (i := 36) rfl) rfl, m_in4 (List.mem_of_getElem? (i := 37) rfl) rfl⟩
abbrev kk_X4_worthTogether : mI := (yX4_worthTogether, cX4_worthTogether, 3, some .int, 0, 0, none)
theorem mt_X4_worthTogether : m_MV kk_X4_worthTogether 0 := ⟨m_in4 (List.mem_of_getElem? (i := 17) rfl) rfl, m_in1 (List.mem_of_getElem? (i := 5) rfl) rfl, ⟨by decide +kernel, by decide +kernel, by decide +kernel⟩, m_in4 (List.mem_of_getElem? (i := 15) rfl) rfl, m_in4 (List.mem_of_getElem? (i := 16) rfl) rfl⟩
abbrev kk_X4_open : mI := (yX4_open, cX4_open, 4, none, 0, 0, none)
theorem mt_X4_open : m_MV kk_X4_open 2 := ⟨m_in3 (List.mem_of_getElem? (i := 105) rfl) rfl, m_in1 (List.mem_of_getElem? (i := 5) rfl) rfl, ⟨by decide +kernel, by decide +kernel, by decide +kernel⟩, m_in3 (List.mem_of_getElem? (i := 103) rfl) rfl, m_in3 (List.mem_of_getElem? (i := 104) rfl) rfl⟩
abbrev kk_X4_run : mI := (yX4_run, cX4_run, 5, none, 3, 75, none)
theorem mt_X4_run : m_MV kk_X4_run 0 := ⟨m_in3 (List.mem_of_getElem? (i := 109) rfl) rfl, m_in1 (List.mem_of_getElem? (i := 5) rfl) rfl, ⟨by decide +kernel, by decide +kernel, by decide +kernel⟩, m_in3 (List.mem_of_getElem? (i := 107) rfl) rfl, m_in3 (List.mem_of_getElem? (i := 108) rfl) rfl⟩
abbrev kk_X4_bringOn : mI := (yX4_bringOn, cX4_bringOn, 6, none, 2, 50, none)
theorem mt_X4_bringOn : m_MV kk_X4_bringOn 3 := ⟨m_in3 (List.mem_of_getElem? (i := 113) rfl) rfl, m_in1 (List.mem_of_getElem? (i := 5) rfl) rfl, ⟨by decide +kernel, by decide +kernel, by decide +kernel⟩, m_in3 (List.mem_of_getElem? (i := 112) rfl) rfl, m_inS (List.mem_of_getElem? (i := 8) rfl) rfl⟩
abbrev kk_X4_weigh : mI := (yX4_weigh, cX4_weigh, 5, none, 1, 26, none)
theorem mt_X4_weigh : m_MV kk_X4_weigh 2 := ⟨m_in3 (List.mem_of_getElem? (i := 117) rfl) rfl, m_in1 (List.mem_of_getElem? (i := 5) rfl) rfl, ⟨by decide +kernel, by decide +kernel, by decide +kernel⟩, m_in3 (List.mem_of_getElem? (i := 116) rfl) rfl, m_inS (List.mem_of_getElem? (i := 9) rfl) rfl⟩
abbrev kk_X4_nextToEnd : mI := (yX4_nextToEnd, cX4_nextToEnd, 4, some .int, 2, 45, none)
theorem mt_X4_nextToEnd : m_MV kk_X4_nextToEnd 0 := ⟨m_in3 (List.mem_of_getElem? (i := 125) rfl) rfl, m_in1 (List.mem_of_getElem? (i := 5) rfl) rfl, ⟨by decide +kernel, by decide +kernel, by decide +kernel⟩, m_in3 (List.mem_of_getElem? (i := 124) rfl) rfl, m_inS (List.mem_of_getElem? (i := 10) rfl) rfl⟩
abbrev kk_X4_endTick : mI := (yX4_endTick, cX4_endTick, 2, some .int, 0, 0, none)
theorem mt_X4_endTick : m_MV kk_X4_endTick 1 := ⟨m_in3 (List.mem_of_getElem? (i := 136) rfl) rfl, m_in1 (List.mem_of_getElem? (i := 5) rfl) rfl, ⟨by decide +kernel, by decide +kernel, by decide +kernel⟩, m_in3 (List.mem_of_getElem? (i := 135) rfl) rfl, m_inS (List.mem_of_getElem? (i := 12) rfl) rfl⟩
abbrev kk_X4_highest : mI := (yX4_highest, cX4_highest, 5, some .int, 1, 21, none)
theorem mt_X4_highest : m_MV kk_X4_highest 2 := ⟨m_in3 (List.mem_of_getElem? (i := 129) rfl) rfl, m_in1 (List.mem_of_getElem? (i := 5) rfl) rfl, ⟨by decide +kernel, by decide +kernel, by decide +kernel⟩, m_in3 (List.mem_of_getElem? (i := 128) rfl) rfl, m_inS (List.mem_of_getElem? (i := 11) rfl) rfl⟩
abbrev kk_X4_presser : mI := (yX4_presser, cX4_presser, 6, some .int, 0, 0, none)
theorem mt_X4_presser : m_MV kk_X4_presser 2 := ⟨m_in3 (List.mem_of_getElem? (i := 140) rfl) rfl, m_in1 (List.mem_of_getElem? (i := 5) rfl) rfl, ⟨by decide +kernel, by decide +kernel, by decide +kernel⟩, m_in3 (List.mem_of_getElem? (i := 139) rfl) rfl, m_inS (List.mem_of_getElem? (i := 13) rfl) rfl⟩
abbrev kk_X4_hand : mI := (yX4_hand, cX4_hand, 5, none, 2, 50, none)
theorem mt_X4_hand : m_MV kk_X4_hand 3 := ⟨m_in3 (List.mem_of_getElem? (i := 144) rfl) rfl, m_in1 (List.mem_of_getElem? (i := 5) rfl) rfl, ⟨by decide +kernel, by decide +kernel, by decide +kernel⟩, m_in3 (List.mem_of_getElem? (i := 143) rfl) rfl, m_inS (List.mem_of_getElem? (i := 14) rfl) rfl⟩
abbrev kk_X4_lookFrom : mI := (yX4_lookFrom, cX4_lookFrom, 4, none, 1, 21, none)
theorem mt_X4_lookFrom : m_MV kk_X4_lookFrom 2 := ⟨m_in3 (List.mem_of_getElem? (i := 148) rfl) rfl, m_in1 (List.mem_of_getElem? (i := 5) rfl) rfl, ⟨by decide +kernel, by decide +kernel, by decide +kernel⟩, m_in3 (List.mem_of_getElem? (i := 147) rfl) rfl, m_inS (List.mem_of_getElem? (i := 15) rfl) rfl⟩
abbrev kk_X5_init : mI := (yX5_init, cX5_init, 2, none, 1, 20, none)
abbrev kk_X5_mostWorth : mI := (yX5_mostWorth, cX5_mostWorth, 4, some .int, 3, 69, none)
theorem mt_X5_mostWorth : m_MV kk_X5_mostWorth 0 := ⟨m_in3 (List.mem_of_getElem? (i := 160) rfl) rfl, m_in1 (List.mem_of_getElem? (i := 6) rfl) rfl, ⟨by decide +kernel, by decide +kernel, by decide +kernel⟩, m_in3 (List.mem_of_getElem? (i := 158) rfl) rfl, m_in3 (List.mem_of_getElem? (i := 159) rfl) rfl⟩
abbrev kk_X5_share : mI := (yX5_share, cX5_share, 4, none, 3, 72, none)
theorem mt_X5_share : m_MV kk_X5_share 0 := ⟨m_in3 (List.mem_of_getElem? (i := 184) rfl) rfl, m_in1 (List.mem_of_getElem? (i := 6) rfl) rfl, ⟨by decide +kernel, by decide +kernel, by decide +kernel⟩, m_in3 (List.mem_of_getElem? (i := 182) rfl) rfl, m_in3 (List.mem_of_getElem? (i := 183) rfl) rfl⟩
abbrev kk_X5_layOut : mI := (yX5_layOut, cX5_layOut, 4, none, 1, 23, none)
theorem mt_X5_layOut : m_MV kk_X5_layOut 0 := ⟨m_in3 (List.mem_of_getElem? (i := 164) rfl) rfl, m_in1 (List.mem_of_getElem? (i := 6) rfl) rfl, ⟨by decide +kernel, by decide +kernel, by decide +kernel⟩, m_in3 (List.mem_of_getElem? (i := 163) rfl) rfl, m_inS (List.mem_of_getElem? (i := 16) rfl) rfl⟩
abbrev kk_X5_distance : mI := (yX5_distance, cX5_distance, 4, some .int, 1, 21, none)
theorem mt_X5_distance : m_MV kk_X5_distance 1 := ⟨m_in3 (List.mem_of_getElem? (i := 178) rfl) rfl, m_in1 (List.mem_of_getElem? (i := 6) rfl) rfl, ⟨by decide +kernel, by decide +kernel, by decide +kernel⟩, m_in3 (List.mem_of_getElem? (i := 177) rfl) rfl, m_inS (List.mem_of_getElem? (i := 18) rfl) rfl⟩
abbrev kk_X5_serve : mI := (yX5_serve, cX5_serve, 6, none, 2, 44, none)
theorem mt_X5_serve : m_MV kk_X5_serve 3 := ⟨m_in3 (List.mem_of_getElem? (i := 174) rfl) rfl, m_in1 (List.mem_of_getElem? (i := 6) rfl) rfl, ⟨by decide +kernel, by decide +kernel, by decide +kernel⟩, m_in3 (List.mem_of_getElem? (i := 173) rfl) rfl, m_inS (List.mem_of_getElem? (i := 17) rfl) rfl⟩
abbrev kk_X5_leastHeap : mI := (yX5_leastHeap, cX5_leastHeap, 9, some .int, 2, 44, none)
theorem mt_X5_leastHeap : m_MV kk_X5_leastHeap 3 := ⟨m_in3 (List.mem_of_getElem? (i := 188) rfl) rfl, m_in1 (List.mem_of_getElem? (i := 6) rfl) rfl, ⟨by decide +kernel, by decide +kernel, by decide +kernel⟩, m_in3 (List.mem_of_getElem? (i := 187) rfl) rfl, m_inS (List.mem_of_getElem? (i := 19) rfl) rfl⟩
abbrev kk_X6_init : mI := (yX6_init, cX6_init, 2, none, 1, 20, none)
abbrev kk_X6_hasLot : mI := (yX6_hasLot, cX6_hasLot, 2, some .boolean, 0, 0, none)
theorem mt_X6_hasLot : m_MV kk_X6_hasLot 1 := ⟨m_in3 (List.mem_of_getElem? (i := 85) rfl) rfl, m_in1 (List.mem_of_getElem? (i := 2) rfl) rfl, ⟨by decide +kernel, by decide +kernel, by decide +kernel⟩, m_in3 (List.mem_of_getElem? (i := 83) rfl) rfl, m_in3 (List.mem_of_getElem? (i := 84) rfl) rfl⟩
abbrev kk_X6_hasBuyer : mI := (yX6_hasBuyer, cX6_hasBuyer, 2, some .boolean, 0, 0, none)
theorem mt_X6_hasBuyer : m_MV kk_X6_hasBuyer 1 := ⟨m_in2 (List.mem_of_getElem? (i := 206) rfl) rfl, m_in1 (List.mem_of_getElem? (i := 2) rfl) rfl, ⟨by decide +kernel, by decide +kernel, by decide +kernel⟩, m_in2 (List.mem_of_getElem? (i := 204) rfl) rfl, m_in2 (List.mem_of_getElem? (i := 205) rfl) rfl⟩
abbrev kk_X6_addLot : mI := (yX6_addLot, cX6_addLot, 4, some .int, 1, 20, none)
theorem mt_X6_addLot : m_MV kk_X6_addLot 3 := ⟨m_in2 (List.mem_of_getElem? (i := 191) rfl) rfl, m_in1 (List.mem_of_getElem? (i := 2) rfl) rfl, ⟨by decide +kernel, by decide +kernel, by decide +kernel⟩, m_in2 (List.mem_of_getElem? (i := 189) rfl) rfl, m_in2 (List.mem_of_getElem? (i := 190) rfl) rfl⟩
abbrev kk_X6_changePlaces : mI := (yX6_changePlaces, cX6_changePlaces, 4, none, 0, 0, none)
theorem mt_X6_changePlaces : m_MV kk_X6_changePlaces 2 := ⟨m_in3 (List.mem_of_getElem? (i := 89) rfl) rfl, m_in1 (List.mem_of_getElem? (i := 2) rfl) rfl, ⟨by decide +kernel, by decide +kernel, by decide +kernel⟩, m_in3 (List.mem_of_getElem? (i := 87) rfl) rfl, m_in3 (List.mem_of_getElem? (i := 88) rfl) rfl⟩
abbrev kk_X6_allLots : mI := (yX6_allLots, cX6_allLots, 1, some .int, 0, 0, none)
theorem mt_X6_allLots : m_MV kk_X6_allLots 0 := ⟨m_in3 (List.mem_of_getElem? (i := 48) rfl) rfl, m_in1 (List.mem_of_getElem? (i := 2) rfl) rfl, ⟨by decide +kernel, by decide +kernel, by decide +kernel⟩, m_in3 (List.mem_of_getElem? (i := 46) rfl) rfl, m_in3 (List.mem_of_getElem? (i := 47) rfl) rfl⟩
abbrev kk_X6_countsOf : mI := (yX6_countsOf, cX6_countsOf, 4, some .int, 0, 0, none)
theorem mt_X6_countsOf : m_MV kk_X6_countsOf 1 := ⟨m_in3 (List.mem_of_getElem? (i := 52) rfl) rfl, m_in1 (List.mem_of_getElem? (i := 2) rfl) rfl, ⟨by decide +kernel, by decide +kernel, by decide +kernel⟩, m_in3 (List.mem_of_getElem? (i := 50) rfl) rfl, m_in3 (List.mem_of_getElem? (i := 51) rfl) rfl⟩
abbrev kk_X6_alternatives : mI := (yX6_alternatives, cX6_alternatives, 3, some .int, 0, 0, none)
theorem mt_X6_alternatives : m_MV kk_X6_alternatives 0 := ⟨m_in4 (List.mem_of_getElem? (i := 56) rfl) rfl, m_in1 (List.mem_of_getElem? (i := 2) rfl) rfl, ⟨by decide +kernel, by decide +kernel, by decide +kernel⟩, m_in4 (List.mem_of_getElem? (i := 54) rfl) rfl, m_in4 (List.mem_of_getElem? (i := 55) rfl) rfl⟩
abbrev kk_X6_pick : mI := (yX6_pick, cX6_pick, 8, some .int, 0, 0, none)
theorem mt_X6_pick : m_MV kk_X6_pick 3 := ⟨m_in3 (List.mem_of_getElem? (i := 192) rfl) rfl, m_in1 (List.mem_of_getElem? (i := 2) rfl) rfl, ⟨by decide +kernel, by decide +kernel, by decide +kernel⟩, m_in3 (List.mem_of_getElem? (i := 190) rfl) rfl, m_in3 (List.mem_of_getElem? (i := 191) rfl) rfl⟩
abbrev kk_X7_init : mI := (yX7_init, cX7_init, 2, none, 1, 20, none)
abbrev kk_X7_follow : mI := (yX7_follow, cX7_follow, 7, none, 5, 122, none)
theorem mt_X7_follow : m_MV kk_X7_follow 2 := ⟨m_in4 (List.mem_of_getElem? (i := 99) rfl) rfl, m_in1 (List.mem_of_getElem? (i := 10) rfl) rfl, ⟨by decide +kernel, by decide +kernel, by decide +kernel⟩, m_in4 (List.mem_of_getElem? (i := 97) rfl) rfl, m_in4 (List.mem_of_getElem? (i := 98) rfl) rfl⟩
abbrev kk_X7_leader : mI := (yX7_leader, cX7_leader, 3, some .int, 0, 0, none)
theorem mt_X7_leader : m_MV kk_X7_leader 0 := ⟨m_in4 (List.mem_of_getElem? (i := 103) rfl) rfl, m_in1 (List.mem_of_getElem? (i := 10) rfl) rfl, ⟨by decide +kernel, by decide +kernel, by decide +kernel⟩, m_in4 (List.mem_of_getElem? (i := 101) rfl) rfl, m_in4 (List.mem_of_getElem? (i := 102) rfl) rfl⟩
abbrev kk_X8_init : mI := (yX8_init, cX8_init, 2, none, 1, 20, none)
abbrev kk_X8_look : mI := (yX8_look, cX8_look, 2, none, 2, 54, none)
theorem mt_X8_look : m_MV kk_X8_look 0 := ⟨m_in3 (List.mem_of_getElem? (i := 205) rfl) rfl, m_in1 (List.mem_of_getElem? (i := 7) rfl) rfl, ⟨by decide +kernel, by decide +kernel, by decide +kernel⟩, m_in3 (List.mem_of_getElem? (i := 203) rfl) rfl, m_in3 (List.mem_of_getElem? (i := 204) rfl) rfl⟩
abbrev kk_X8_lack : mI := (yX8_lack, cX8_lack, 4, some .int, 0, 0, none)
theorem mt_X8_lack : m_MV kk_X8_lack 1 := ⟨m_in3 (List.mem_of_getElem? (i := 228) rfl) rfl, m_in1 (List.mem_of_getElem? (i := 7) rfl) rfl, ⟨by decide +kernel, by decide +kernel, by decide +kernel⟩, m_in3 (List.mem_of_getElem? (i := 226) rfl) rfl, m_in3 (List.mem_of_getElem? (i := 227) rfl) rfl⟩
abbrev kk_X8_raise : mI := (yX8_raise, cX8_raise, 5, none, 3, 75, none)
theorem mt_X8_raise : m_MV kk_X8_raise 1 := ⟨m_in3 (List.mem_of_getElem? (i := 236) rfl) rfl, m_in1 (List.mem_of_getElem? (i := 7) rfl) rfl, ⟨by decide +kernel, by decide +kernel, by decide +kernel⟩, m_in3 (List.mem_of_getElem? (i := 234) rfl) rfl, m_in3 (List.mem_of_getElem? (i := 235) rfl) rfl⟩
abbrev kk_X8_wantedTwice : mI := (yX8_wantedTwice, cX8_wantedTwice, 4, some .int, 0, 0, none)
theorem mt_X8_wantedTwice : m_MV kk_X8_wantedTwice 0 := ⟨m_in4 (List.mem_of_getElem? (i := 2) rfl) rfl, m_in1 (List.mem_of_getElem? (i := 7) rfl) rfl, ⟨by decide +kernel, by decide +kernel, by decide +kernel⟩, m_in4 (List.mem_of_getElem? (i := 1) rfl) rfl, m_inS (List.mem_of_getElem? (i := 23) rfl) rfl⟩
abbrev kk_X8_sortByPrice : mI := (yX8_sortByPrice, cX8_sortByPrice, 3, none, 0, 0, none)
theorem mt_X8_sortByPrice : m_MV kk_X8_sortByPrice 0 := ⟨m_in3 (List.mem_of_getElem? (i := 209) rfl) rfl, m_in1 (List.mem_of_getElem? (i := 7) rfl) rfl, ⟨by decide +kernel, by decide +kernel, by decide +kernel⟩, m_in3 (List.mem_of_getElem? (i := 208) rfl) rfl, m_inS (List.mem_of_getElem? (i := 20) rfl) rfl⟩
abbrev kk_X8_like : mI := (yX8_like, cX8_like, 8, none, 1, 27, none)
theorem mt_X8_like : m_MV kk_X8_like 2 := ⟨m_in3 (List.mem_of_getElem? (i := 213) rfl) rfl, m_in1 (List.mem_of_getElem? (i := 7) rfl) rfl, ⟨by decide +kernel, by decide +kernel, by decide +kernel⟩, m_in3 (List.mem_of_getElem? (i := 212) rfl) rfl, m_inS (List.mem_of_getElem? (i := 21) rfl) rfl⟩
abbrev kk_X8_costOf : mI := (yX8_costOf, cX8_costOf, 4, some .int, 0, 0, none)
theorem mt_X8_costOf : m_MV kk_X8_costOf 1 := ⟨m_in3 (List.mem_of_getElem? (i := 220) rfl) rfl, m_in1 (List.mem_of_getElem? (i := 7) rfl) rfl, ⟨by decide +kernel, by decide +kernel, by decide +kernel⟩, m_in3 (List.mem_of_getElem? (i := 219) rfl) rfl, m_inS (List.mem_of_getElem? (i := 22) rfl) rfl⟩
abbrev kk_X9_init : mI := (yX9_init, cX9_init, 1, none, 1, 20, none)
abbrev kk_X9_firstWrong : mI := (yX9_firstWrong, cX9_firstWrong, 2, some .int, 3, 63, none)
theorem mt_X9_firstWrong : m_MV kk_X9_firstWrong 0 := ⟨m_in2 (List.mem_of_getElem? (i := 229) rfl) rfl, m_in1 (List.mem_of_getElem? (i := 4) rfl) rfl, ⟨by decide +kernel, by decide +kernel, by decide +kernel⟩, m_in2 (List.mem_of_getElem? (i := 227) rfl) rfl, m_in2 (List.mem_of_getElem? (i := 228) rfl) rfl⟩
abbrev kk_X9_begin : mI := (yX9_begin, cX9_begin, 2, none, 0, 0, none)
theorem mt_X9_begin : m_MV kk_X9_begin 1 := ⟨m_in2 (List.mem_of_getElem? (i := 233) rfl) rfl, m_in1 (List.mem_of_getElem? (i := 4) rfl) rfl, ⟨by decide +kernel, by decide +kernel, by decide +kernel⟩, m_in2 (List.mem_of_getElem? (i := 232) rfl) rfl, m_inS (List.mem_of_getElem? (i := 1) rfl) rfl⟩
abbrev kk_X9_takes : mI := (yX9_takes, cX9_takes, 2, some .boolean, 2, 42, none)
theorem mt_X9_takes : m_MV kk_X9_takes 1 := ⟨m_in2 (List.mem_of_getElem? (i := 237) rfl) rfl, m_in1 (List.mem_of_getElem? (i := 4) rfl) rfl, ⟨by decide +kernel, by decide +kernel, by decide +kernel⟩, m_in2 (List.mem_of_getElem? (i := 236) rfl) rfl, m_inS (List.mem_of_getElem? (i := 2) rfl) rfl⟩
abbrev kk_X9_takesCount : mI := (yX9_takesCount, cX9_takesCount, 2, some .boolean, 0, 0, none)
theorem mt_X9_takesCount : m_MV kk_X9_takesCount 1 := ⟨m_in3 (List.mem_of_getElem? (i := 1) rfl) rfl, m_in1 (List.mem_of_getElem? (i := 4) rfl) rfl, ⟨by decide +kernel, by decide +kernel, by decide +kernel⟩, m_in3 (List.mem_of_getElem? (i := 0) rfl) rfl, m_inS (List.mem_of_getElem? (i := 3) rfl) rfl⟩
abbrev kk_X9_takesLetter : mI := (yX9_takesLetter, cX9_takesLetter, 3, some .boolean, 1, 20, none)
theorem mt_X9_takesLetter : m_MV kk_X9_takesLetter 1 := ⟨m_in3 (List.mem_of_getElem? (i := 5) rfl) rfl, m_in1 (List.mem_of_getElem? (i := 4) rfl) rfl, ⟨by decide +kernel, by decide +kernel, by decide +kernel⟩, m_in3 (List.mem_of_getElem? (i := 4) rfl) rfl, m_inS (List.mem_of_getElem? (i := 4) rfl) rfl⟩
abbrev kk_X9_takesEquals : mI := (yX9_takesEquals, cX9_takesEquals, 1, some .boolean, 0, 0, none)
theorem mt_X9_takesEquals : m_MV kk_X9_takesEquals 0 := ⟨m_in3 (List.mem_of_getElem? (i := 10) rfl) rfl, m_in1 (List.mem_of_getElem? (i := 4) rfl) rfl, ⟨by decide +kernel, by decide +kernel, by decide +kernel⟩, m_in3 (List.mem_of_getElem? (i := 9) rfl) rfl, m_inS (List.mem_of_getElem? (i := 5) rfl) rfl⟩
abbrev kk_X9_takesDigit : mI := (yX9_takesDigit, cX9_takesDigit, 2, some .boolean, 0, 0, none)
theorem mt_X9_takesDigit : m_MV kk_X9_takesDigit 1 := ⟨m_in3 (List.mem_of_getElem? (i := 14) rfl) rfl, m_in1 (List.mem_of_getElem? (i := 4) rfl) rfl, ⟨by decide +kernel, by decide +kernel, by decide +kernel⟩, m_in3 (List.mem_of_getElem? (i := 13) rfl) rfl, m_inS (List.mem_of_getElem? (i := 6) rfl) rfl⟩
abbrev kk_X9_takesBar : mI := (yX9_takesBar, cX9_takesBar, 1, some .boolean, 1, 21, none)
theorem mt_X9_takesBar : m_MV kk_X9_takesBar 0 := ⟨m_in3 (List.mem_of_getElem? (i := 18) rfl) rfl, m_in1 (List.mem_of_getElem? (i := 4) rfl) rfl, ⟨by decide +kernel, by decide +kernel, by decide +kernel⟩, m_in3 (List.mem_of_getElem? (i := 17) rfl) rfl, m_inS (List.mem_of_getElem? (i := 7) rfl) rfl⟩
abbrev kk_X10_init : mI := (yX10_init, cX10_init, 1, none, 2, 43, none)
abbrev kk_X10_lot : mI := (yX10_lot, cX10_lot, 4, some .int, 2, 43, none)
theorem mt_X10_lot : m_MV kk_X10_lot 3 := ⟨m_in2 (List.mem_of_getElem? (i := 180) rfl) rfl, m_in1 (List.mem_of_getElem? (i := 1) rfl) rfl, ⟨by decide +kernel, by decide +kernel, by decide +kernel⟩, m_in2 (List.mem_of_getElem? (i := 178) rfl) rfl, m_in2 (List.mem_of_getElem? (i := 179) rfl) rfl⟩
abbrev kk_X10_buyer : mI := (yX10_buyer, cX10_buyer, 1, some .int, 1, 20, none)
theorem mt_X10_buyer : m_MV kk_X10_buyer 0 := ⟨m_in2 (List.mem_of_getElem? (i := 198) rfl) rfl, m_in1 (List.mem_of_getElem? (i := 1) rfl) rfl, ⟨by decide +kernel, by decide +kernel, by decide +kernel⟩, m_in2 (List.mem_of_getElem? (i := 196) rfl) rfl, m_in2 (List.mem_of_getElem? (i := 197) rfl) rfl⟩
abbrev kk_X10_set : mI := (yX10_set, cX10_set, 4, some .int, 1, 23, none)
theorem mt_X10_set : m_MV kk_X10_set 3 := ⟨m_in2 (List.mem_of_getElem? (i := 202) rfl) rfl, m_in1 (List.mem_of_getElem? (i := 1) rfl) rfl, ⟨by decide +kernel, by decide +kernel, by decide +kernel⟩, m_in2 (List.mem_of_getElem? (i := 200) rfl) rfl, m_in2 (List.mem_of_getElem? (i := 201) rfl) rfl⟩
abbrev kk_X10_say : mI := (yX10_say, cX10_say, 2, some .int, 1, 22, none)
theorem mt_X10_say : m_MV kk_X10_say 1 := ⟨m_in2 (List.mem_of_getElem? (i := 217) rfl) rfl, m_in1 (List.mem_of_getElem? (i := 1) rfl) rfl, ⟨by decide +kernel, by decide +kernel, by decide +kernel⟩, m_in2 (List.mem_of_getElem? (i := 215) rfl) rfl, m_in2 (List.mem_of_getElem? (i := 216) rfl) rfl⟩
abbrev kk_X10_wipe : mI := (yX10_wipe, cX10_wipe, 2, some .int, 0, 0, none)
theorem mt_X10_wipe : m_MV kk_X10_wipe 0 := ⟨m_in2 (List.mem_of_getElem? (i := 221) rfl) rfl, m_in1 (List.mem_of_getElem? (i := 1) rfl) rfl, ⟨by decide +kernel, by decide +kernel, by decide +kernel⟩, m_in2 (List.mem_of_getElem? (i := 219) rfl) rfl, m_in2 (List.mem_of_getElem? (i := 220) rfl) rfl⟩
abbrev kk_X10_fault : mI := (yX10_fault, cX10_fault, 1, some .int, 4, 84, none)
theorem mt_X10_fault : m_MV kk_X10_fault 0 := ⟨m_in2 (List.mem_of_getElem? (i := 225) rfl) rfl, m_in1 (List.mem_of_getElem? (i := 1) rfl) rfl, ⟨by decide +kernel, by decide +kernel, by decide +kernel⟩, m_in2 (List.mem_of_getElem? (i := 223) rfl) rfl, m_in2 (List.mem_of_getElem? (i := 224) rfl) rfl⟩
abbrev kk_X10_wish : mI := (yX10_wish, cX10_wish, 2, some .int, 4, 84, none)
theorem mt_X10_wish : m_MV kk_X10_wish 1 := ⟨m_in3 (List.mem_of_getElem? (i := 22) rfl) rfl, m_in1 (List.mem_of_getElem? (i := 1) rfl) rfl, ⟨by decide +kernel, by decide +kernel, by decide +kernel⟩, m_in3 (List.mem_of_getElem? (i := 20) rfl) rfl, m_in3 (List.mem_of_getElem? (i := 21) rfl) rfl⟩
abbrev kk_X10_alternative : mI := (yX10_alternative, cX10_alternative, 5, some .int, 1, 22, none)
theorem mt_X10_alternative : m_MV kk_X10_alternative 3 := ⟨m_in3 (List.mem_of_getElem? (i := 33) rfl) rfl, m_in1 (List.mem_of_getElem? (i := 1) rfl) rfl, ⟨by decide +kernel, by decide +kernel, by decide +kernel⟩, m_in3 (List.mem_of_getElem? (i := 31) rfl) rfl, m_in3 (List.mem_of_getElem? (i := 32) rfl) rfl⟩
abbrev kk_X10_leave : mI := (yX10_leave, cX10_leave, 5, some .int, 1, 22, none)
theorem mt_X10_leave : m_MV kk_X10_leave 2 := ⟨m_in3 (List.mem_of_getElem? (i := 40) rfl) rfl, m_in1 (List.mem_of_getElem? (i := 1) rfl) rfl, ⟨by decide +kernel, by decide +kernel, by decide +kernel⟩, m_in3 (List.mem_of_getElem? (i := 38) rfl) rfl, m_in3 (List.mem_of_getElem? (i := 39) rfl) rfl⟩
abbrev kk_X10_worth : mI := (yX10_worth, cX10_worth, 3, some .int, 1, 26, none)
theorem mt_X10_worth : m_MV kk_X10_worth 2 := ⟨m_in3 (List.mem_of_getElem? (i := 44) rfl) rfl, m_in1 (List.mem_of_getElem? (i := 1) rfl) rfl, ⟨by decide +kernel, by decide +kernel, by decide +kernel⟩, m_in3 (List.mem_of_getElem? (i := 42) rfl) rfl, m_in3 (List.mem_of_getElem? (i := 43) rfl) rfl⟩
abbrev kk_X10_why : mI := (yX10_why, cX10_why, 5, some .int, 2, 44, none)
theorem mt_X10_why : m_MV kk_X10_why 2 := ⟨m_in3 (List.mem_of_getElem? (i := 61) rfl) rfl, m_in1 (List.mem_of_getElem? (i := 1) rfl) rfl, ⟨by decide +kernel, by decide +kernel, by decide +kernel⟩, m_in3 (List.mem_of_getElem? (i := 59) rfl) rfl, m_in3 (List.mem_of_getElem? (i := 60) rfl) rfl⟩
abbrev kk_X10_top : mI := (yX10_top, cX10_top, 3, some .int, 1, 22, none)
theorem mt_X10_top : m_MV kk_X10_top 1 := ⟨m_in3 (List.mem_of_getElem? (i := 77) rfl) rfl, m_in1 (List.mem_of_getElem? (i := 1) rfl) rfl, ⟨by decide +kernel, by decide +kernel, by decide +kernel⟩, m_in3 (List.mem_of_getElem? (i := 75) rfl) rfl, m_in3 (List.mem_of_getElem? (i := 76) rfl) rfl⟩
abbrev kk_X10_swap : mI := (yX10_swap, cX10_swap, 3, some .int, 1, 23, none)
theorem mt_X10_swap : m_MV kk_X10_swap 2 := ⟨m_in3 (List.mem_of_getElem? (i := 81) rfl) rfl, m_in1 (List.mem_of_getElem? (i := 1) rfl) rfl, ⟨by decide +kernel, by decide +kernel, by decide +kernel⟩, m_in3 (List.mem_of_getElem? (i := 79) rfl) rfl, m_in3 (List.mem_of_getElem? (i := 80) rfl) rfl⟩
abbrev kk_X10_order : mI := (yX10_order, cX10_order, 2, some .int, 1, 21, none)
theorem mt_X10_order : m_MV kk_X10_order 1 := ⟨m_in3 (List.mem_of_getElem? (i := 93) rfl) rfl, m_in1 (List.mem_of_getElem? (i := 1) rfl) rfl, ⟨by decide +kernel, by decide +kernel, by decide +kernel⟩, m_in3 (List.mem_of_getElem? (i := 91) rfl) rfl, m_in3 (List.mem_of_getElem? (i := 92) rfl) rfl⟩
abbrev kk_X10_sold : mI := (yX10_sold, cX10_sold, 3, some .int, 5, 119, none)
theorem mt_X10_sold : m_MV kk_X10_sold 2 := ⟨m_in3 (List.mem_of_getElem? (i := 97) rfl) rfl, m_in1 (List.mem_of_getElem? (i := 1) rfl) rfl, ⟨by decide +kernel, by decide +kernel, by decide +kernel⟩, m_in3 (List.mem_of_getElem? (i := 95) rfl) rfl, m_in3 (List.mem_of_getElem? (i := 96) rfl) rfl⟩
abbrev kk_X10_day : mI := (yX10_day, cX10_day, 3, some .int, 5, 119, none)
theorem mt_X10_day : m_MV kk_X10_day 2 := ⟨m_in3 (List.mem_of_getElem? (i := 152) rfl) rfl, m_in1 (List.mem_of_getElem? (i := 1) rfl) rfl, ⟨by decide +kernel, by decide +kernel, by decide +kernel⟩, m_in3 (List.mem_of_getElem? (i := 150) rfl) rfl, m_in3 (List.mem_of_getElem? (i := 151) rfl) rfl⟩
abbrev kk_X10_dealt : mI := (yX10_dealt, cX10_dealt, 3, some .int, 4, 95, none)
theorem mt_X10_dealt : m_MV kk_X10_dealt 1 := ⟨m_in3 (List.mem_of_getElem? (i := 156) rfl) rfl, m_in1 (List.mem_of_getElem? (i := 1) rfl) rfl, ⟨by decide +kernel, by decide +kernel, by decide +kernel⟩, m_in3 (List.mem_of_getElem? (i := 154) rfl) rfl, m_in3 (List.mem_of_getElem? (i := 155) rfl) rfl⟩
abbrev kk_X10_price : mI := (yX10_price, cX10_price, 4, some .int, 1, 22, none)
theorem mt_X10_price : m_MV kk_X10_price 2 := ⟨m_in3 (List.mem_of_getElem? (i := 197) rfl) rfl, m_in1 (List.mem_of_getElem? (i := 1) rfl) rfl, ⟨by decide +kernel, by decide +kernel, by decide +kernel⟩, m_in3 (List.mem_of_getElem? (i := 195) rfl) rfl, m_in3 (List.mem_of_getElem? (i := 196) rfl) rfl⟩
abbrev kk_X10_likes : mI := (yX10_likes, cX10_likes, 3, some .int, 3, 75, none)
theorem mt_X10_likes : m_MV kk_X10_likes 2 := ⟨m_in3 (List.mem_of_getElem? (i := 201) rfl) rfl, m_in1 (List.mem_of_getElem? (i := 1) rfl) rfl, ⟨by decide +kernel, by decide +kernel, by decide +kernel⟩, m_in3 (List.mem_of_getElem? (i := 199) rfl) rfl, m_in3 (List.mem_of_getElem? (i := 200) rfl) rfl⟩
abbrev kk_X10_missing : mI := (yX10_missing, cX10_missing, 1, some .int, 4, 92, none)
theorem mt_X10_missing : m_MV kk_X10_missing 0 := ⟨m_in3 (List.mem_of_getElem? (i := 224) rfl) rfl, m_in1 (List.mem_of_getElem? (i := 1) rfl) rfl, ⟨by decide +kernel, by decide +kernel, by decide +kernel⟩, m_in3 (List.mem_of_getElem? (i := 222) rfl) rfl, m_in3 (List.mem_of_getElem? (i := 223) rfl) rfl⟩
abbrev kk_X10_raised : mI := (yX10_raised, cX10_raised, 2, some .int, 4, 99, none)
theorem mt_X10_raised : m_MV kk_X10_raised 1 := ⟨m_in3 (List.mem_of_getElem? (i := 232) rfl) rfl, m_in1 (List.mem_of_getElem? (i := 1) rfl) rfl, ⟨by decide +kernel, by decide +kernel, by decide +kernel⟩, m_in3 (List.mem_of_getElem? (i := 230) rfl) rfl, m_in3 (List.mem_of_getElem? (i := 231) rfl) rfl⟩
abbrev kk_X10_orders : mI := (yX10_orders, cX10_orders, 3, some .int, 5, 121, none)
theorem mt_X10_orders : m_MV kk_X10_orders 1 := ⟨m_in4 (List.mem_of_getElem? (i := 6) rfl) rfl, m_in1 (List.mem_of_getElem? (i := 1) rfl) rfl, ⟨by decide +kernel, by decide +kernel, by decide +kernel⟩, m_in4 (List.mem_of_getElem? (i := 4) rfl) rfl, m_in4 (List.mem_of_getElem? (i := 5) rfl) rfl⟩
abbrev kk_X10_gain : mI := (yX10_gain, cX10_gain, 2, some .int, 5, 119, none)
theorem mt_X10_gain : m_MV kk_X10_gain 1 := ⟨m_in4 (List.mem_of_getElem? (i := 33) rfl) rfl, m_in1 (List.mem_of_getElem? (i := 1) rfl) rfl, ⟨by decide +kernel, by decide +kernel, by decide +kernel⟩, m_in4 (List.mem_of_getElem? (i := 31) rfl) rfl, m_in4 (List.mem_of_getElem? (i := 32) rfl) rfl⟩
abbrev kk_X10_cut : mI := (yX10_cut, cX10_cut, 7, some .int, 5, 122, none)
theorem mt_X10_cut : m_MV kk_X10_cut 2 := ⟨m_in4 (List.mem_of_getElem? (i := 42) rfl) rfl, m_in1 (List.mem_of_getElem? (i := 1) rfl) rfl, ⟨by decide +kernel, by decide +kernel, by decide +kernel⟩, m_in4 (List.mem_of_getElem? (i := 40) rfl) rfl, m_in4 (List.mem_of_getElem? (i := 41) rfl) rfl⟩
abbrev kk_X10_broken : mI := (yX10_broken, cX10_broken, 2, some .int, 6, 144, none)
theorem mt_X10_broken : m_MV kk_X10_broken 1 := ⟨m_in4 (List.mem_of_getElem? (i := 52) rfl) rfl, m_in1 (List.mem_of_getElem? (i := 1) rfl) rfl, ⟨by decide +kernel, by decide +kernel, by decide +kernel⟩, m_in4 (List.mem_of_getElem? (i := 50) rfl) rfl, m_in4 (List.mem_of_getElem? (i := 51) rfl) rfl⟩
abbrev kk_X10_lesson : mI := (yX10_lesson, cX10_lesson, 2, some .int, 1, 22, none)
theorem mt_X10_lesson : m_MV kk_X10_lesson 1 := ⟨m_in4 (List.mem_of_getElem? (i := 87) rfl) rfl, m_in1 (List.mem_of_getElem? (i := 1) rfl) rfl, ⟨by decide +kernel, by decide +kernel, by decide +kernel⟩, m_in4 (List.mem_of_getElem? (i := 85) rfl) rfl, m_in4 (List.mem_of_getElem? (i := 86) rfl) rfl⟩
abbrev kk_X10_unlearn : mI := (yX10_unlearn, cX10_unlearn, 2, some .int, 0, 0, none)
theorem mt_X10_unlearn : m_MV kk_X10_unlearn 0 := ⟨m_in4 (List.mem_of_getElem? (i := 91) rfl) rfl, m_in1 (List.mem_of_getElem? (i := 1) rfl) rfl, ⟨by decide +kernel, by decide +kernel, by decide +kernel⟩, m_in4 (List.mem_of_getElem? (i := 89) rfl) rfl, m_in4 (List.mem_of_getElem? (i := 90) rfl) rfl⟩
abbrev kk_X10_learn : mI := (yX10_learn, cX10_learn, 5, some .int, 6, 148, none)
theorem mt_X10_learn : m_MV kk_X10_learn 3 := ⟨m_in4 (List.mem_of_getElem? (i := 95) rfl) rfl, m_in1 (List.mem_of_getElem? (i := 1) rfl) rfl, ⟨by decide +kernel, by decide +kernel, by decide +kernel⟩, m_in4 (List.mem_of_getElem? (i := 93) rfl) rfl, m_in4 (List.mem_of_getElem? (i := 94) rfl) rfl⟩
abbrev kk_X10_told : mI := (yX10_told, cX10_told, 2, some .int, 1, 22, none)
theorem mt_X10_told : m_MV kk_X10_told 1 := ⟨m_in4 (List.mem_of_getElem? (i := 109) rfl) rfl, m_in1 (List.mem_of_getElem? (i := 1) rfl) rfl, ⟨by decide +kernel, by decide +kernel, by decide +kernel⟩, m_in4 (List.mem_of_getElem? (i := 107) rfl) rfl, m_in4 (List.mem_of_getElem? (i := 108) rfl) rfl⟩
abbrev kk_X10_isNot : mI := (yX10_isNot, cX10_isNot, 3, some .boolean, 0, 0, none)
theorem mt_X10_isNot : m_MS kk_X10_isNot 3 := ⟨m_in2 (List.mem_of_getElem? (i := 183) rfl) rfl, m_in1 (List.mem_of_getElem? (i := 1) rfl) rfl, ⟨by decide +kernel, by decide +kernel, by decide +kernel⟩, m_in2 (List.mem_of_getElem? (i := 182) rfl) rfl⟩
abbrev kk_X10_forget : mI := (yX10_forget, cX10_forget, 1, none, 0, 0, none)
theorem mt_X10_forget : m_MV kk_X10_forget 0 := ⟨m_in2 (List.mem_of_getElem? (i := 187) rfl) rfl, m_in1 (List.mem_of_getElem? (i := 1) rfl) rfl, ⟨by decide +kernel, by decide +kernel, by decide +kernel⟩, m_in2 (List.mem_of_getElem? (i := 186) rfl) rfl, m_inS (List.mem_of_getElem? (i := 0) rfl) rfl⟩
abbrev kk_X11_init : mI := (yX11_init, cX11_init, 1, none, 1, 20, none)
abbrev kk_X11_in : mI := (yX11_in, cX11_in, 6, some .boolean, 0, 0, none)
theorem mt_X11_in : m_MS kk_X11_in 3 := ⟨m_in5 (List.mem_of_getElem? (i := 1) rfl) rfl, m_in1 (List.mem_of_getElem? (i := 11) rfl) rfl, ⟨by decide +kernel, by decide +kernel, by decide +kernel⟩, m_in5 (List.mem_of_getElem? (i := 0) rfl) rfl⟩
abbrev kk_X11_ones : mI := (yX11_ones, cX11_ones, 3, some .int, 0, 0, none)
theorem mt_X11_ones : m_MS kk_X11_ones 1 := ⟨m_in5 (List.mem_of_getElem? (i := 222) rfl) rfl, m_in1 (List.mem_of_getElem? (i := 11) rfl) rfl, ⟨by decide +kernel, by decide +kernel, by decide +kernel⟩, m_in5 (List.mem_of_getElem? (i := 221) rfl) rfl⟩
abbrev kk_X11_isLot : mI := (yX11_isLot, cX11_isLot, 2, some .boolean, 1, 25, none)
theorem mt_X11_isLot : m_MV kk_X11_isLot 1 := ⟨m_in5 (List.mem_of_getElem? (i := 85) rfl) rfl, m_in1 (List.mem_of_getElem? (i := 11) rfl) rfl, ⟨by decide +kernel, by decide +kernel, by decide +kernel⟩, m_in5 (List.mem_of_getElem? (i := 84) rfl) rfl, m_inS (List.mem_of_getElem? (i := 34) rfl) rfl⟩
abbrev kk_X11_isBuyer : mI := (yX11_isBuyer, cX11_isBuyer, 2, some .boolean, 1, 25, none)
theorem mt_X11_isBuyer : m_MV kk_X11_isBuyer 1 := ⟨m_in5 (List.mem_of_getElem? (i := 15) rfl) rfl, m_in1 (List.mem_of_getElem? (i := 11) rfl) rfl, ⟨by decide +kernel, by decide +kernel, by decide +kernel⟩, m_in5 (List.mem_of_getElem? (i := 14) rfl) rfl, m_inS (List.mem_of_getElem? (i := 30) rfl) rfl⟩
abbrev kk_X11_lot : mI := (yX11_lot, cX11_lot, 4, some .int, 1, 25, none)
theorem mt_X11_lot : m_MV kk_X11_lot 3 := ⟨m_in4 (List.mem_of_getElem? (i := 237) rfl) rfl, m_in1 (List.mem_of_getElem? (i := 11) rfl) rfl, ⟨by decide +kernel, by decide +kernel, by decide +kernel⟩, m_in4 (List.mem_of_getElem? (i := 235) rfl) rfl, m_in4 (List.mem_of_getElem? (i := 236) rfl) rfl⟩
abbrev kk_X11_buyer : mI := (yX11_buyer, cX11_buyer, 1, some .int, 0, 0, none)
theorem mt_X11_buyer : m_MV kk_X11_buyer 0 := ⟨m_in5 (List.mem_of_getElem? (i := 7) rfl) rfl, m_in1 (List.mem_of_getElem? (i := 11) rfl) rfl, ⟨by decide +kernel, by decide +kernel, by decide +kernel⟩, m_in5 (List.mem_of_getElem? (i := 5) rfl) rfl, m_in5 (List.mem_of_getElem? (i := 6) rfl) rfl⟩
abbrev kk_X11_set : mI := (yX11_set, cX11_set, 5, some .int, 2, 46, none)
theorem mt_X11_set : m_MV kk_X11_set 3 := ⟨m_in5 (List.mem_of_getElem? (i := 11) rfl) rfl, m_in1 (List.mem_of_getElem? (i := 11) rfl) rfl, ⟨by decide +kernel, by decide +kernel, by decide +kernel⟩, m_in5 (List.mem_of_getElem? (i := 9) rfl) rfl, m_in5 (List.mem_of_getElem? (i := 10) rfl) rfl⟩
abbrev kk_X11_say : mI := (yX11_say, cX11_say, 2, some .int, 1, 25, none)
theorem mt_X11_say : m_MV kk_X11_say 1 := ⟨m_in5 (List.mem_of_getElem? (i := 21) rfl) rfl, m_in1 (List.mem_of_getElem? (i := 11) rfl) rfl, ⟨by decide +kernel, by decide +kernel, by decide +kernel⟩, m_in5 (List.mem_of_getElem? (i := 19) rfl) rfl, m_in5 (List.mem_of_getElem? (i := 20) rfl) rfl⟩
abbrev kk_X11_wipe : mI := (yX11_wipe, cX11_wipe, 2, some .int, 0, 0, none)
theorem mt_X11_wipe : m_MV kk_X11_wipe 0 := ⟨m_in5 (List.mem_of_getElem? (i := 27) rfl) rfl, m_in1 (List.mem_of_getElem? (i := 11) rfl) rfl, ⟨by decide +kernel, by decide +kernel, by decide +kernel⟩, m_in5 (List.mem_of_getElem? (i := 25) rfl) rfl, m_in5 (List.mem_of_getElem? (i := 26) rfl) rfl⟩
abbrev kk_X11_stepOf : mI := (yX11_stepOf, cX11_stepOf, 5, some .int, 1, 25, none)
theorem mt_X11_stepOf : m_MS kk_X11_stepOf 4 := ⟨m_in5 (List.mem_of_getElem? (i := 34) rfl) rfl, m_in1 (List.mem_of_getElem? (i := 11) rfl) rfl, ⟨by decide +kernel, by decide +kernel, by decide +kernel⟩, m_in5 (List.mem_of_getElem? (i := 33) rfl) rfl⟩
abbrev kk_X11_fault : mI := (yX11_fault, cX11_fault, 6, some .int, 2, 49, none)
theorem mt_X11_fault : m_MV kk_X11_fault 0 := ⟨m_in5 (List.mem_of_getElem? (i := 31) rfl) rfl, m_in1 (List.mem_of_getElem? (i := 11) rfl) rfl, ⟨by decide +kernel, by decide +kernel, by decide +kernel⟩, m_in5 (List.mem_of_getElem? (i := 29) rfl) rfl, m_in5 (List.mem_of_getElem? (i := 30) rfl) rfl⟩
abbrev kk_X11_wish : mI := (yX11_wish, cX11_wish, 7, some .int, 3, 74, none)
theorem mt_X11_wish : m_MV kk_X11_wish 1 := ⟨m_in5 (List.mem_of_getElem? (i := 43) rfl) rfl, m_in1 (List.mem_of_getElem? (i := 11) rfl) rfl, ⟨by decide +kernel, by decide +kernel, by decide +kernel⟩, m_in5 (List.mem_of_getElem? (i := 41) rfl) rfl, m_in5 (List.mem_of_getElem? (i := 42) rfl) rfl⟩
abbrev kk_X11_alternative : mI := (yX11_alternative, cX11_alternative, 5, some .int, 2, 46, none)
theorem mt_X11_alternative : m_MV kk_X11_alternative 3 := ⟨m_in5 (List.mem_of_getElem? (i := 48) rfl) rfl, m_in1 (List.mem_of_getElem? (i := 11) rfl) rfl, ⟨by decide +kernel, by decide +kernel, by decide +kernel⟩, m_in5 (List.mem_of_getElem? (i := 46) rfl) rfl, m_in5 (List.mem_of_getElem? (i := 47) rfl) rfl⟩
abbrev kk_X11_leave : mI := (yX11_leave, cX11_leave, 4, some .int, 2, 46, none)
theorem mt_X11_leave : m_MV kk_X11_leave 2 := ⟨m_in5 (List.mem_of_getElem? (i := 53) rfl) rfl, m_in1 (List.mem_of_getElem? (i := 11) rfl) rfl, ⟨by decide +kernel, by decide +kernel, by decide +kernel⟩, m_in5 (List.mem_of_getElem? (i := 51) rfl) rfl, m_in5 (List.mem_of_getElem? (i := 52) rfl) rfl⟩
abbrev kk_X11_isMet : mI := (yX11_isMet, cX11_isMet, 7, some .boolean, 0, 0, none)
theorem mt_X11_isMet : m_MV kk_X11_isMet 2 := ⟨m_in5 (List.mem_of_getElem? (i := 69) rfl) rfl, m_in1 (List.mem_of_getElem? (i := 11) rfl) rfl, ⟨by decide +kernel, by decide +kernel, by decide +kernel⟩, m_in5 (List.mem_of_getElem? (i := 68) rfl) rfl, m_inS (List.mem_of_getElem? (i := 33) rfl) rfl⟩
abbrev kk_X11_bestOf : mI := (yX11_bestOf, cX11_bestOf, 7, some .int, 1, 26, none)
theorem mt_X11_bestOf : m_MV kk_X11_bestOf 2 := ⟨m_in5 (List.mem_of_getElem? (i := 65) rfl) rfl, m_in1 (List.mem_of_getElem? (i := 11) rfl) rfl, ⟨by decide +kernel, by decide +kernel, by decide +kernel⟩, m_in5 (List.mem_of_getElem? (i := 64) rfl) rfl, m_inS (List.mem_of_getElem? (i := 32) rfl) rfl⟩
abbrev kk_X11_isHeap : mI := (yX11_isHeap, cX11_isHeap, 2, some .boolean, 1, 25, none)
theorem mt_X11_isHeap : m_MV kk_X11_isHeap 1 := ⟨m_in5 (List.mem_of_getElem? (i := 61) rfl) rfl, m_in1 (List.mem_of_getElem? (i := 11) rfl) rfl, ⟨by decide +kernel, by decide +kernel, by decide +kernel⟩, m_in5 (List.mem_of_getElem? (i := 60) rfl) rfl, m_inS (List.mem_of_getElem? (i := 31) rfl) rfl⟩
abbrev kk_X11_worth : mI := (yX11_worth, cX11_worth, 4, some .int, 2, 52, none)
theorem mt_X11_worth : m_MV kk_X11_worth 2 := ⟨m_in5 (List.mem_of_getElem? (i := 57) rfl) rfl, m_in1 (List.mem_of_getElem? (i := 11) rfl) rfl, ⟨by decide +kernel, by decide +kernel, by decide +kernel⟩, m_in5 (List.mem_of_getElem? (i := 55) rfl) rfl, m_in5 (List.mem_of_getElem? (i := 56) rfl) rfl⟩
abbrev kk_X11_why : mI := (yX11_why, cX11_why, 3, some .int, 2, 52, none)
theorem mt_X11_why : m_MV kk_X11_why 2 := ⟨m_in5 (List.mem_of_getElem? (i := 73) rfl) rfl, m_in1 (List.mem_of_getElem? (i := 11) rfl) rfl, ⟨by decide +kernel, by decide +kernel, by decide +kernel⟩, m_in5 (List.mem_of_getElem? (i := 71) rfl) rfl, m_in5 (List.mem_of_getElem? (i := 72) rfl) rfl⟩
abbrev kk_X11_layWorths : mI := (yX11_layWorths, cX11_layWorths, 4, none, 2, 52, none)
theorem mt_X11_layWorths : m_MV kk_X11_layWorths 0 := ⟨m_in5 (List.mem_of_getElem? (i := 97) rfl) rfl, m_in1 (List.mem_of_getElem? (i := 11) rfl) rfl, ⟨by decide +kernel, by decide +kernel, by decide +kernel⟩, m_in5 (List.mem_of_getElem? (i := 96) rfl) rfl, m_inS (List.mem_of_getElem? (i := 35) rfl) rfl⟩
abbrev kk_X11_top : mI := (yX11_top, cX11_top, 3, some .int, 1, 25, none)
theorem mt_X11_top : m_MV kk_X11_top 1 := ⟨m_in5 (List.mem_of_getElem? (i := 77) rfl) rfl, m_in1 (List.mem_of_getElem? (i := 11) rfl) rfl, ⟨by decide +kernel, by decide +kernel, by decide +kernel⟩, m_in5 (List.mem_of_getElem? (i := 75) rfl) rfl, m_in5 (List.mem_of_getElem? (i := 76) rfl) rfl⟩
abbrev kk_X11_swap : mI := (yX11_swap, cX11_swap, 5, some .int, 2, 46, none)
theorem mt_X11_swap : m_MV kk_X11_swap 2 := ⟨m_in5 (List.mem_of_getElem? (i := 81) rfl) rfl, m_in1 (List.mem_of_getElem? (i := 11) rfl) rfl, ⟨by decide +kernel, by decide +kernel, by decide +kernel⟩, m_in5 (List.mem_of_getElem? (i := 79) rfl) rfl, m_in5 (List.mem_of_getElem? (i := 80) rfl) rfl⟩
abbrev kk_X11_order : mI := (yX11_order, cX11_order, 2, some .int, 1, 25, none)
theorem mt_X11_order : m_MV kk_X11_order 1 := ⟨m_in5 (List.mem_of_getElem? (i := 89) rfl) rfl, m_in1 (List.mem_of_getElem? (i := 11) rfl) rfl, ⟨by decide +kernel, by decide +kernel, by decide +kernel⟩, m_in5 (List.mem_of_getElem? (i := 87) rfl) rfl, m_in5 (List.mem_of_getElem? (i := 88) rfl) rfl⟩
abbrev kk_X11_nextPlace : mI := (yX11_nextPlace, cX11_nextPlace, 4, some .int, 0, 0, none)
theorem mt_X11_nextPlace : m_MV kk_X11_nextPlace 2 := ⟨m_in5 (List.mem_of_getElem? (i := 105) rfl) rfl, m_in1 (List.mem_of_getElem? (i := 11) rfl) rfl, ⟨by decide +kernel, by decide +kernel, by decide +kernel⟩, m_in5 (List.mem_of_getElem? (i := 104) rfl) rfl, m_inS (List.mem_of_getElem? (i := 37) rfl) rfl⟩
abbrev kk_X11_presser : mI := (yX11_presser, cX11_presser, 8, some .int, 0, 0, none)
theorem mt_X11_presser : m_MV kk_X11_presser 2 := ⟨m_in5 (List.mem_of_getElem? (i := 109) rfl) rfl, m_in1 (List.mem_of_getElem? (i := 11) rfl) rfl, ⟨by decide +kernel, by decide +kernel, by decide +kernel⟩, m_in5 (List.mem_of_getElem? (i := 108) rfl) rfl, m_inS (List.mem_of_getElem? (i := 38) rfl) rfl⟩
abbrev kk_X11_runDay : mI := (yX11_runDay, cX11_runDay, 8, none, 1, 27, none)
theorem mt_X11_runDay : m_MV kk_X11_runDay 1 := ⟨m_in5 (List.mem_of_getElem? (i := 101) rfl) rfl, m_in1 (List.mem_of_getElem? (i := 11) rfl) rfl, ⟨by decide +kernel, by decide +kernel, by decide +kernel⟩, m_in5 (List.mem_of_getElem? (i := 100) rfl) rfl, m_inS (List.mem_of_getElem? (i := 36) rfl) rfl⟩
abbrev kk_X11_sell : mI := (yX11_sell, cX11_sell, 5, none, 0, 0, none)
theorem mt_X11_sell : m_MV kk_X11_sell 4 := ⟨m_in5 (List.mem_of_getElem? (i := 113) rfl) rfl, m_in1 (List.mem_of_getElem? (i := 11) rfl) rfl, ⟨by decide +kernel, by decide +kernel, by decide +kernel⟩, m_in5 (List.mem_of_getElem? (i := 112) rfl) rfl, m_inS (List.mem_of_getElem? (i := 39) rfl) rfl⟩
abbrev kk_X11_sold : mI := (yX11_sold, cX11_sold, 3, some .int, 3, 75, none)
theorem mt_X11_sold : m_MV kk_X11_sold 2 := ⟨m_in5 (List.mem_of_getElem? (i := 93) rfl) rfl, m_in1 (List.mem_of_getElem? (i := 11) rfl) rfl, ⟨by decide +kernel, by decide +kernel, by decide +kernel⟩, m_in5 (List.mem_of_getElem? (i := 91) rfl) rfl, m_in5 (List.mem_of_getElem? (i := 92) rfl) rfl⟩
abbrev kk_X11_worthOfDay : mI := (yX11_worthOfDay, cX11_worthOfDay, 2, some .int, 0, 0, none)
theorem mt_X11_worthOfDay : m_MV kk_X11_worthOfDay 1 := ⟨m_in5 (List.mem_of_getElem? (i := 122) rfl) rfl, m_in1 (List.mem_of_getElem? (i := 11) rfl) rfl, ⟨by decide +kernel, by decide +kernel, by decide +kernel⟩, m_in5 (List.mem_of_getElem? (i := 121) rfl) rfl, m_inS (List.mem_of_getElem? (i := 40) rfl) rfl⟩
abbrev kk_X11_day : mI := (yX11_day, cX11_day, 3, some .int, 3, 75, none)
theorem mt_X11_day : m_MV kk_X11_day 2 := ⟨m_in5 (List.mem_of_getElem? (i := 117) rfl) rfl, m_in1 (List.mem_of_getElem? (i := 11) rfl) rfl, ⟨by decide +kernel, by decide +kernel, by decide +kernel⟩, m_in5 (List.mem_of_getElem? (i := 115) rfl) rfl, m_in5 (List.mem_of_getElem? (i := 116) rfl) rfl⟩
abbrev kk_X11_findDealt : mI := (yX11_findDealt, cX11_findDealt, 6, none, 0, 0, none)
theorem mt_X11_findDealt : m_MV kk_X11_findDealt 0 := ⟨m_in5 (List.mem_of_getElem? (i := 130) rfl) rfl, m_in1 (List.mem_of_getElem? (i := 11) rfl) rfl, ⟨by decide +kernel, by decide +kernel, by decide +kernel⟩, m_in5 (List.mem_of_getElem? (i := 129) rfl) rfl, m_inS (List.mem_of_getElem? (i := 41) rfl) rfl⟩
abbrev kk_X11_dealtWorth : mI := (yX11_dealtWorth, cX11_dealtWorth, 1, some .int, 0, 0, none)
theorem mt_X11_dealtWorth : m_MV kk_X11_dealtWorth 0 := ⟨m_in5 (List.mem_of_getElem? (i := 134) rfl) rfl, m_in1 (List.mem_of_getElem? (i := 11) rfl) rfl, ⟨by decide +kernel, by decide +kernel, by decide +kernel⟩, m_in5 (List.mem_of_getElem? (i := 133) rfl) rfl, m_inS (List.mem_of_getElem? (i := 42) rfl) rfl⟩
abbrev kk_X11_dealt : mI := (yX11_dealt, cX11_dealt, 5, some .int, 3, 75, none)
theorem mt_X11_dealt : m_MV kk_X11_dealt 1 := ⟨m_in5 (List.mem_of_getElem? (i := 126) rfl) rfl, m_in1 (List.mem_of_getElem? (i := 11) rfl) rfl, ⟨by decide +kernel, by decide +kernel, by decide +kernel⟩, m_in5 (List.mem_of_getElem? (i := 124) rfl) rfl, m_in5 (List.mem_of_getElem? (i := 125) rfl) rfl⟩
abbrev kk_X11_price : mI := (yX11_price, cX11_price, 4, some .int, 2, 46, none)
theorem mt_X11_price : m_MV kk_X11_price 2 := ⟨m_in5 (List.mem_of_getElem? (i := 138) rfl) rfl, m_in1 (List.mem_of_getElem? (i := 11) rfl) rfl, ⟨by decide +kernel, by decide +kernel, by decide +kernel⟩, m_in5 (List.mem_of_getElem? (i := 136) rfl) rfl, m_in5 (List.mem_of_getElem? (i := 137) rfl) rfl⟩
abbrev kk_X11_costOf : mI := (yX11_costOf, cX11_costOf, 5, some .int, 0, 0, none)
theorem mt_X11_costOf : m_MV kk_X11_costOf 2 := ⟨m_in5 (List.mem_of_getElem? (i := 150) rfl) rfl, m_in1 (List.mem_of_getElem? (i := 11) rfl) rfl, ⟨by decide +kernel, by decide +kernel, by decide +kernel⟩, m_in5 (List.mem_of_getElem? (i := 149) rfl) rfl, m_inS (List.mem_of_getElem? (i := 44) rfl) rfl⟩
abbrev kk_X11_liked : mI := (yX11_liked, cX11_liked, 7, some .int, 1, 24, none)
theorem mt_X11_liked : m_MV kk_X11_liked 2 := ⟨m_in5 (List.mem_of_getElem? (i := 146) rfl) rfl, m_in1 (List.mem_of_getElem? (i := 11) rfl) rfl, ⟨by decide +kernel, by decide +kernel, by decide +kernel⟩, m_in5 (List.mem_of_getElem? (i := 145) rfl) rfl, m_inS (List.mem_of_getElem? (i := 43) rfl) rfl⟩
abbrev kk_X11_over : mI := (yX11_over, cX11_over, 4, some .int, 1, 24, none)
theorem mt_X11_over : m_MV kk_X11_over 3 := ⟨m_in5 (List.mem_of_getElem? (i := 154) rfl) rfl, m_in1 (List.mem_of_getElem? (i := 11) rfl) rfl, ⟨by decide +kernel, by decide +kernel, by decide +kernel⟩, m_in5 (List.mem_of_getElem? (i := 153) rfl) rfl, m_inS (List.mem_of_getElem? (i := 45) rfl) rfl⟩
abbrev kk_X11_likes : mI := (yX11_likes, cX11_likes, 4, some .int, 3, 75, none)
theorem mt_X11_likes : m_MV kk_X11_likes 2 := ⟨m_in5 (List.mem_of_getElem? (i := 142) rfl) rfl, m_in1 (List.mem_of_getElem? (i := 11) rfl) rfl, ⟨by decide +kernel, by decide +kernel, by decide +kernel⟩, m_in5 (List.mem_of_getElem? (i := 140) rfl) rfl, m_in5 (List.mem_of_getElem? (i := 141) rfl) rfl⟩
abbrev kk_X11_missingBy : mI := (yX11_missingBy, cX11_missingBy, 4, some .int, 2, 50, none)
theorem mt_X11_missingBy : m_MV kk_X11_missingBy 1 := ⟨m_in5 (List.mem_of_getElem? (i := 162) rfl) rfl, m_in1 (List.mem_of_getElem? (i := 11) rfl) rfl, ⟨by decide +kernel, by decide +kernel, by decide +kernel⟩, m_in5 (List.mem_of_getElem? (i := 161) rfl) rfl, m_inS (List.mem_of_getElem? (i := 46) rfl) rfl⟩
abbrev kk_X11_missing : mI := (yX11_missing, cX11_missing, 1, some .int, 3, 75, none)
theorem mt_X11_missing : m_MV kk_X11_missing 0 := ⟨m_in5 (List.mem_of_getElem? (i := 158) rfl) rfl, m_in1 (List.mem_of_getElem? (i := 11) rfl) rfl, ⟨by decide +kernel, by decide +kernel, by decide +kernel⟩, m_in5 (List.mem_of_getElem? (i := 156) rfl) rfl, m_in5 (List.mem_of_getElem? (i := 157) rfl) rfl⟩
abbrev kk_X11_raise : mI := (yX11_raise, cX11_raise, 6, some .int, 3, 73, none)
theorem mt_X11_raise : m_MV kk_X11_raise 0 := ⟨m_in5 (List.mem_of_getElem? (i := 172) rfl) rfl, m_in1 (List.mem_of_getElem? (i := 11) rfl) rfl, ⟨by decide +kernel, by decide +kernel, by decide +kernel⟩, m_in5 (List.mem_of_getElem? (i := 171) rfl) rfl, m_inS (List.mem_of_getElem? (i := 47) rfl) rfl⟩
abbrev kk_X11_raised : mI := (yX11_raised, cX11_raised, 3, some .int, 4, 98, none)
theorem mt_X11_raised : m_MV kk_X11_raised 1 := ⟨m_in5 (List.mem_of_getElem? (i := 166) rfl) rfl, m_in1 (List.mem_of_getElem? (i := 11) rfl) rfl, ⟨by decide +kernel, by decide +kernel, by decide +kernel⟩, m_in5 (List.mem_of_getElem? (i := 164) rfl) rfl, m_in5 (List.mem_of_getElem? (i := 165) rfl) rfl⟩
abbrev kk_X11_exchange : mI := (yX11_exchange, cX11_exchange, 4, none, 0, 0, none)
theorem mt_X11_exchange : m_MV kk_X11_exchange 2 := ⟨m_in5 (List.mem_of_getElem? (i := 196) rfl) rfl, m_in1 (List.mem_of_getElem? (i := 11) rfl) rfl, ⟨by decide +kernel, by decide +kernel, by decide +kernel⟩, m_in5 (List.mem_of_getElem? (i := 195) rfl) rfl, m_inS (List.mem_of_getElem? (i := 51) rfl) rfl⟩
abbrev kk_X11_nextOrder : mI := (yX11_nextOrder, cX11_nextOrder, 4, some .boolean, 1, 23, none)
theorem mt_X11_nextOrder : m_MV kk_X11_nextOrder 0 := ⟨m_in5 (List.mem_of_getElem? (i := 192) rfl) rfl, m_in1 (List.mem_of_getElem? (i := 11) rfl) rfl, ⟨by decide +kernel, by decide +kernel, by decide +kernel⟩, m_in5 (List.mem_of_getElem? (i := 191) rfl) rfl, m_inS (List.mem_of_getElem? (i := 50) rfl) rfl⟩
abbrev kk_X11_worthOfAll : mI := (yX11_worthOfAll, cX11_worthOfAll, 3, some .int, 1, 21, none)
theorem mt_X11_worthOfAll : m_MV kk_X11_worthOfAll 0 := ⟨m_in5 (List.mem_of_getElem? (i := 188) rfl) rfl, m_in1 (List.mem_of_getElem? (i := 11) rfl) rfl, ⟨by decide +kernel, by decide +kernel, by decide +kernel⟩, m_in5 (List.mem_of_getElem? (i := 187) rfl) rfl, m_inS (List.mem_of_getElem? (i := 49) rfl) rfl⟩
abbrev kk_X11_findOrders : mI := (yX11_findOrders, cX11_findOrders, 4, none, 3, 75, none)
theorem mt_X11_findOrders : m_MV kk_X11_findOrders 0 := ⟨m_in5 (List.mem_of_getElem? (i := 183) rfl) rfl, m_in1 (List.mem_of_getElem? (i := 11) rfl) rfl, ⟨by decide +kernel, by decide +kernel, by decide +kernel⟩, m_in5 (List.mem_of_getElem? (i := 182) rfl) rfl, m_inS (List.mem_of_getElem? (i := 48) rfl) rfl⟩
abbrev kk_X11_orders : mI := (yX11_orders, cX11_orders, 3, some .int, 4, 98, none)
theorem mt_X11_orders : m_MV kk_X11_orders 1 := ⟨m_in5 (List.mem_of_getElem? (i := 176) rfl) rfl, m_in1 (List.mem_of_getElem? (i := 11) rfl) rfl, ⟨by decide +kernel, by decide +kernel, by decide +kernel⟩, m_in5 (List.mem_of_getElem? (i := 174) rfl) rfl, m_in5 (List.mem_of_getElem? (i := 175) rfl) rfl⟩
abbrev kk_X11_gainOf : mI := (yX11_gainOf, cX11_gainOf, 3, some .int, 2, 54, none)
theorem mt_X11_gainOf : m_MV kk_X11_gainOf 2 := ⟨m_in5 (List.mem_of_getElem? (i := 205) rfl) rfl, m_in1 (List.mem_of_getElem? (i := 11) rfl) rfl, ⟨by decide +kernel, by decide +kernel, by decide +kernel⟩, m_in5 (List.mem_of_getElem? (i := 204) rfl) rfl, m_inS (List.mem_of_getElem? (i := 52) rfl) rfl⟩
abbrev kk_X11_gain : mI := (yX11_gain, cX11_gain, 2, some .int, 3, 76, none)
theorem mt_X11_gain : m_MV kk_X11_gain 1 := ⟨m_in5 (List.mem_of_getElem? (i := 200) rfl) rfl, m_in1 (List.mem_of_getElem? (i := 11) rfl) rfl, ⟨by decide +kernel, by decide +kernel, by decide +kernel⟩, m_in5 (List.mem_of_getElem? (i := 198) rfl) rfl, m_in5 (List.mem_of_getElem? (i := 199) rfl) rfl⟩
abbrev kk_X11_cut : mI := (yX11_cut, cX11_cut, 8, some .int, 3, 76, none)
theorem mt_X11_cut : m_MV kk_X11_cut 2 := ⟨m_in5 (List.mem_of_getElem? (i := 209) rfl) rfl, m_in1 (List.mem_of_getElem? (i := 11) rfl) rfl, ⟨by decide +kernel, by decide +kernel, by decide +kernel⟩, m_in5 (List.mem_of_getElem? (i := 207) rfl) rfl, m_in5 (List.mem_of_getElem? (i := 208) rfl) rfl⟩
abbrev kk_X11_allWishes : mI := (yX11_allWishes, cX11_allWishes, 3, some .int, 0, 0, none)
theorem mt_X11_allWishes : m_MV kk_X11_allWishes 0 := ⟨m_in5 (List.mem_of_getElem? (i := 219) rfl) rfl, m_in1 (List.mem_of_getElem? (i := 11) rfl) rfl, ⟨by decide +kernel, by decide +kernel, by decide +kernel⟩, m_in5 (List.mem_of_getElem? (i := 218) rfl) rfl, m_inS (List.mem_of_getElem? (i := 53) rfl) rfl⟩
abbrev kk_X11_leaveAll : mI := (yX11_leaveAll, cX11_leaveAll, 6, some .boolean, 0, 0, none)
theorem mt_X11_leaveAll : m_MV kk_X11_leaveAll 1 := ⟨m_in5 (List.mem_of_getElem? (i := 226) rfl) rfl, m_in1 (List.mem_of_getElem? (i := 11) rfl) rfl, ⟨by decide +kernel, by decide +kernel, by decide +kernel⟩, m_in5 (List.mem_of_getElem? (i := 225) rfl) rfl, m_inS (List.mem_of_getElem? (i := 54) rfl) rfl⟩
abbrev kk_X11_broken : mI := (yX11_broken, cX11_broken, 6, some .int, 4, 98, none)
theorem mt_X11_broken : m_MV kk_X11_broken 1 := ⟨m_in5 (List.mem_of_getElem? (i := 215) rfl) rfl, m_in1 (List.mem_of_getElem? (i := 11) rfl) rfl, ⟨by decide +kernel, by decide +kernel, by decide +kernel⟩, m_in5 (List.mem_of_getElem? (i := 213) rfl) rfl, m_in5 (List.mem_of_getElem? (i := 214) rfl) rfl⟩
abbrev kk_X11_lesson : mI := (yX11_lesson, cX11_lesson, 2, some .int, 1, 25, none)
theorem mt_X11_lesson : m_MV kk_X11_lesson 1 := ⟨m_in5 (List.mem_of_getElem? (i := 230) rfl) rfl, m_in1 (List.mem_of_getElem? (i := 11) rfl) rfl, ⟨by decide +kernel, by decide +kernel, by decide +kernel⟩, m_in5 (List.mem_of_getElem? (i := 228) rfl) rfl, m_in5 (List.mem_of_getElem? (i := 229) rfl) rfl⟩
abbrev kk_X11_unlearn : mI := (yX11_unlearn, cX11_unlearn, 2, some .int, 0, 0, none)
theorem mt_X11_unlearn : m_MV kk_X11_unlearn 0 := ⟨m_in5 (List.mem_of_getElem? (i := 234) rfl) rfl, m_in1 (List.mem_of_getElem? (i := 11) rfl) rfl, ⟨by decide +kernel, by decide +kernel, by decide +kernel⟩, m_in5 (List.mem_of_getElem? (i := 232) rfl) rfl, m_in5 (List.mem_of_getElem? (i := 233) rfl) rfl⟩
abbrev kk_X11_broughtAhead : mI := (yX11_broughtAhead, cX11_broughtAhead, 5, some .int, 0, 0, none)
theorem mt_X11_broughtAhead : m_MV kk_X11_broughtAhead 2 := ⟨m_in6 (List.mem_of_getElem? (i := 7) rfl) rfl, m_in1 (List.mem_of_getElem? (i := 11) rfl) rfl, ⟨by decide +kernel, by decide +kernel, by decide +kernel⟩, m_in6 (List.mem_of_getElem? (i := 6) rfl) rfl, m_inS (List.mem_of_getElem? (i := 56) rfl) rfl⟩
abbrev kk_X11_bestAhead : mI := (yX11_bestAhead, cX11_bestAhead, 4, some .int, 1, 24, none)
theorem mt_X11_bestAhead : m_MV kk_X11_bestAhead 1 := ⟨m_in6 (List.mem_of_getElem? (i := 3) rfl) rfl, m_in1 (List.mem_of_getElem? (i := 11) rfl) rfl, ⟨by decide +kernel, by decide +kernel, by decide +kernel⟩, m_in6 (List.mem_of_getElem? (i := 2) rfl) rfl, m_inS (List.mem_of_getElem? (i := 55) rfl) rfl⟩
abbrev kk_X11_learn : mI := (yX11_learn, cX11_learn, 7, some .int, 3, 76, none)
theorem mt_X11_learn : m_MV kk_X11_learn 3 := ⟨m_in5 (List.mem_of_getElem? (i := 238) rfl) rfl, m_in1 (List.mem_of_getElem? (i := 11) rfl) rfl, ⟨by decide +kernel, by decide +kernel, by decide +kernel⟩, m_in5 (List.mem_of_getElem? (i := 236) rfl) rfl, m_in5 (List.mem_of_getElem? (i := 237) rfl) rfl⟩
abbrev kk_X11_told : mI := (yX11_told, cX11_told, 2, some .int, 1, 25, none)
theorem mt_X11_told : m_MV kk_X11_told 1 := ⟨m_in6 (List.mem_of_getElem? (i := 11) rfl) rfl, m_in1 (List.mem_of_getElem? (i := 11) rfl) rfl, ⟨by decide +kernel, by decide +kernel, by decide +kernel⟩, m_in6 (List.mem_of_getElem? (i := 9) rfl) rfl, m_in6 (List.mem_of_getElem? (i := 10) rfl) rfl⟩
abbrev kk_J6_bitCount_0f7a4 : mI := (yJ6_bitCount_0f7a4, cJ6_bitCount_0f7a4, 1, some .int, 0, 0, none)
theorem mt_J6_bitCount_0f7a4 : m_MS kk_J6_bitCount_0f7a4 1 := ⟨m_in4 (List.mem_of_getElem? (i := 69) rfl) rfl, m_in1 (List.mem_of_getElem? (i := 15) rfl) rfl, ⟨by decide +kernel, by decide +kernel, by decide +kernel⟩, m_in4 (List.mem_of_getElem? (i := 68) rfl) rfl⟩
abbrev kk_J9_max_7cf53 : mI := (yJ9_max_7cf53, cJ9_max_7cf53, 2, some .int, 0, 0, none)
theorem mt_J9_max_7cf53 : m_MS kk_J9_max_7cf53 2 := ⟨m_in3 (List.mem_of_getElem? (i := 132) rfl) rfl, m_in1 (List.mem_of_getElem? (i := 14) rfl) rfl, ⟨by decide +kernel, by decide +kernel, by decide +kernel⟩, m_in3 (List.mem_of_getElem? (i := 131) rfl) rfl⟩
abbrev kk_J9_min_7cf53 : mI := (yJ9_min_7cf53, cJ9_min_7cf53, 2, some .int, 0, 0, none)
theorem mt_J9_min_7cf53 : m_MS kk_J9_min_7cf53 2 := ⟨m_in3 (List.mem_of_getElem? (i := 121) rfl) rfl, m_in1 (List.mem_of_getElem? (i := 14) rfl) rfl, ⟨by decide +kernel, by decide +kernel, by decide +kernel⟩, m_in3 (List.mem_of_getElem? (i := 120) rfl) rfl⟩
theorem ml_L_9 : Cond.methodLink RL 9 yX10_init ∈ lw_gd := m_in1 (List.mem_of_getElem? (i := 18) rfl) rfl
theorem ml_X10_9 : Cond.methodLink RX10 9 yX6_init ∈ lw_gd := m_in1 (List.mem_of_getElem? (i := 26) rfl) rfl
theorem ml_X10_25 : Cond.methodLink RX10 25 yX4_init ∈ lw_gd := m_in1 (List.mem_of_getElem? (i := 173) rfl) rfl
theorem ml_X10_34 : Cond.methodLink RX10 34 yX5_init ∈ lw_gd := m_in2 (List.mem_of_getElem? (i := 0) rfl) rfl
theorem ml_X10_41 : Cond.methodLink RX10 41 yX8_init ∈ lw_gd := m_in2 (List.mem_of_getElem? (i := 27) rfl) rfl
theorem ml_X10_51 : Cond.methodLink RX10 51 yX2_init ∈ lw_gd := m_in2 (List.mem_of_getElem? (i := 61) rfl) rfl
theorem ml_X10_60 : Cond.methodLink RX10 60 yX0_init ∈ lw_gd := m_in2 (List.mem_of_getElem? (i := 97) rfl) rfl
theorem ml_X10_69 : Cond.methodLink RX10 69 yX7_init ∈ lw_gd := m_in2 (List.mem_of_getElem? (i := 121) rfl) rfl
theorem ml_L_13 : Cond.methodLink RL 13 yX10_lot ∈ lw_gd := m_in2 (List.mem_of_getElem? (i := 177) rfl) rfl
theorem ml_X10_76 : Cond.methodLink RX10 76 yX10_isNot ∈ lw_gd := m_in2 (List.mem_of_getElem? (i := 181) rfl) rfl
theorem ml_X10_84 : Cond.methodLink RX10 84 yX10_forget ∈ lw_gd := m_in2 (List.mem_of_getElem? (i := 184) rfl) rfl
theorem ml_X10_87 : Cond.methodLink RX10 87 yX6_addLot ∈ lw_gd := m_in2 (List.mem_of_getElem? (i := 188) rfl) rfl
theorem ml_X6_44 : Cond.methodLink RX6 44 yX3_one ∈ lw_gd := m_in2 (List.mem_of_getElem? (i := 192) rfl) rfl
theorem ml_L_18 : Cond.methodLink RL 18 yX10_buyer ∈ lw_gd := m_in2 (List.mem_of_getElem? (i := 195) rfl) rfl
theorem ml_L_23 : Cond.methodLink RL 23 yX10_set ∈ lw_gd := m_in2 (List.mem_of_getElem? (i := 199) rfl) rfl
theorem ml_X10_94 : Cond.methodLink RX10 94 yX6_hasBuyer ∈ lw_gd := m_in2 (List.mem_of_getElem? (i := 203) rfl) rfl
theorem ml_X10_98 : Cond.methodLink RX10 98 yX1_most ∈ lw_gd := m_in2 (List.mem_of_getElem? (i := 207) rfl) rfl
theorem ml_X10_108 : Cond.methodLink RX10 108 yX1_put ∈ lw_gd := m_in2 (List.mem_of_getElem? (i := 210) rfl) rfl
theorem ml_L_27 : Cond.methodLink RL 27 yX10_say ∈ lw_gd := m_in2 (List.mem_of_getElem? (i := 214) rfl) rfl
theorem ml_L_32 : Cond.methodLink RL 32 yX10_wipe ∈ lw_gd := m_in2 (List.mem_of_getElem? (i := 218) rfl) rfl
theorem ml_L_36 : Cond.methodLink RL 36 yX10_fault ∈ lw_gd := m_in2 (List.mem_of_getElem? (i := 222) rfl) rfl
theorem ml_X10_117 : Cond.methodLink RX10 117 yX9_firstWrong ∈ lw_gd := m_in2 (List.mem_of_getElem? (i := 226) rfl) rfl
theorem ml_X9_21 : Cond.methodLink RX9 21 yX9_begin ∈ lw_gd := m_in2 (List.mem_of_getElem? (i := 230) rfl) rfl
theorem ml_X9_29 : Cond.methodLink RX9 29 yX9_takes ∈ lw_gd := m_in2 (List.mem_of_getElem? (i := 234) rfl) rfl
theorem ml_X9_45 : Cond.methodLink RX9 45 yX9_takesCount ∈ lw_gd := m_in2 (List.mem_of_getElem? (i := 238) rfl) rfl
theorem ml_X9_48 : Cond.methodLink RX9 48 yX9_takesLetter ∈ lw_gd := m_in3 (List.mem_of_getElem? (i := 2) rfl) rfl
theorem ml_X9_64 : Cond.methodLink RX9 64 yX3_one ∈ lw_gd := m_in3 (List.mem_of_getElem? (i := 6) rfl) rfl
theorem ml_X9_51 : Cond.methodLink RX9 51 yX9_takesEquals ∈ lw_gd := m_in3 (List.mem_of_getElem? (i := 7) rfl) rfl
theorem ml_X9_55 : Cond.methodLink RX9 55 yX9_takesDigit ∈ lw_gd := m_in3 (List.mem_of_getElem? (i := 11) rfl) rfl
theorem ml_X9_58 : Cond.methodLink RX9 58 yX9_takesBar ∈ lw_gd := m_in3 (List.mem_of_getElem? (i := 15) rfl) rfl
theorem ml_L_40 : Cond.methodLink RL 40 yX10_wish ∈ lw_gd := m_in3 (List.mem_of_getElem? (i := 19) rfl) rfl
theorem ml_X10_121 : Cond.methodLink RX10 121 yX1_take ∈ lw_gd := m_in3 (List.mem_of_getElem? (i := 23) rfl) rfl
theorem ml_L_44 : Cond.methodLink RL 44 yX10_alternative ∈ lw_gd := m_in3 (List.mem_of_getElem? (i := 30) rfl) rfl
theorem ml_X10_134 : Cond.methodLink RX10 134 yX3_of ∈ lw_gd := m_in3 (List.mem_of_getElem? (i := 34) rfl) rfl
theorem ml_L_48 : Cond.methodLink RL 48 yX10_leave ∈ lw_gd := m_in3 (List.mem_of_getElem? (i := 37) rfl) rfl
theorem ml_L_53 : Cond.methodLink RL 53 yX10_worth ∈ lw_gd := m_in3 (List.mem_of_getElem? (i := 41) rfl) rfl
theorem ml_X10_142 : Cond.methodLink RX10 142 yX6_allLots ∈ lw_gd := m_in3 (List.mem_of_getElem? (i := 45) rfl) rfl
theorem ml_X10_145 : Cond.methodLink RX10 145 yX6_countsOf ∈ lw_gd := m_in3 (List.mem_of_getElem? (i := 49) rfl) rfl
theorem ml_X10_148 : Cond.methodLink RX10 148 yX1_worthOf ∈ lw_gd := m_in3 (List.mem_of_getElem? (i := 53) rfl) rfl
theorem ml_L_57 : Cond.methodLink RL 57 yX10_why ∈ lw_gd := m_in3 (List.mem_of_getElem? (i := 58) rfl) rfl
theorem ml_X10_151 : Cond.methodLink RX10 151 yX1_firstMet ∈ lw_gd := m_in3 (List.mem_of_getElem? (i := 62) rfl) rfl
theorem ml_X1_53 : Cond.methodLink RX1 53 yX1_isThere ∈ lw_gd := m_in3 (List.mem_of_getElem? (i := 66) rfl) rfl
theorem ml_X1_57 : Cond.methodLink RX1 57 yX3_cover ∈ lw_gd := m_in3 (List.mem_of_getElem? (i := 70) rfl) rfl
theorem ml_L_61 : Cond.methodLink RL 61 yX10_top ∈ lw_gd := m_in3 (List.mem_of_getElem? (i := 74) rfl) rfl
theorem ml_L_65 : Cond.methodLink RL 65 yX10_swap ∈ lw_gd := m_in3 (List.mem_of_getElem? (i := 78) rfl) rfl
theorem ml_X10_157 : Cond.methodLink RX10 157 yX6_hasLot ∈ lw_gd := m_in3 (List.mem_of_getElem? (i := 82) rfl) rfl
theorem ml_X10_160 : Cond.methodLink RX10 160 yX6_changePlaces ∈ lw_gd := m_in3 (List.mem_of_getElem? (i := 86) rfl) rfl
theorem ml_L_69 : Cond.methodLink RL 69 yX10_order ∈ lw_gd := m_in3 (List.mem_of_getElem? (i := 90) rfl) rfl
theorem ml_L_73 : Cond.methodLink RL 73 yX10_sold ∈ lw_gd := m_in3 (List.mem_of_getElem? (i := 94) rfl) rfl
theorem ml_X10_167 : Cond.methodLink RX10 167 yX4_runAsItIs ∈ lw_gd := m_in3 (List.mem_of_getElem? (i := 98) rfl) rfl
theorem ml_X4_70 : Cond.methodLink RX4 70 yX4_open ∈ lw_gd := m_in3 (List.mem_of_getElem? (i := 102) rfl) rfl
theorem ml_X4_74 : Cond.methodLink RX4 74 yX4_run ∈ lw_gd := m_in3 (List.mem_of_getElem? (i := 106) rfl) rfl
theorem ml_X4_96 : Cond.methodLink RX4 96 yX4_bringOn ∈ lw_gd := m_in3 (List.mem_of_getElem? (i := 110) rfl) rfl
theorem ml_X4_127 : Cond.methodLink RX4 127 yX4_weigh ∈ lw_gd := m_in3 (List.mem_of_getElem? (i := 114) rfl) rfl
theorem ml_X4_133 : Cond.methodLink RX4 133 yX1_worthOf ∈ lw_gd := m_in3 (List.mem_of_getElem? (i := 118) rfl) rfl
theorem ml_X4_136 : Cond.methodLink RX4 136 yJ9_min_7cf53 ∈ lw_gd := m_in3 (List.mem_of_getElem? (i := 119) rfl) rfl
theorem ml_X4_103 : Cond.methodLink RX4 103 yX4_nextToEnd ∈ lw_gd := m_in3 (List.mem_of_getElem? (i := 122) rfl) rfl
theorem ml_X4_141 : Cond.methodLink RX4 141 yX4_highest ∈ lw_gd := m_in3 (List.mem_of_getElem? (i := 126) rfl) rfl
theorem ml_X4_144 : Cond.methodLink RX4 144 yJ9_max_7cf53 ∈ lw_gd := m_in3 (List.mem_of_getElem? (i := 130) rfl) rfl
theorem ml_X4_107 : Cond.methodLink RX4 107 yX4_endTick ∈ lw_gd := m_in3 (List.mem_of_getElem? (i := 133) rfl) rfl
theorem ml_X4_113 : Cond.methodLink RX4 113 yX4_presser ∈ lw_gd := m_in3 (List.mem_of_getElem? (i := 137) rfl) rfl
theorem ml_X4_117 : Cond.methodLink RX4 117 yX4_hand ∈ lw_gd := m_in3 (List.mem_of_getElem? (i := 141) rfl) rfl
theorem ml_X4_120 : Cond.methodLink RX4 120 yX4_lookFrom ∈ lw_gd := m_in3 (List.mem_of_getElem? (i := 145) rfl) rfl
theorem ml_L_77 : Cond.methodLink RL 77 yX10_day ∈ lw_gd := m_in3 (List.mem_of_getElem? (i := 149) rfl) rfl
theorem ml_L_81 : Cond.methodLink RL 81 yX10_dealt ∈ lw_gd := m_in3 (List.mem_of_getElem? (i := 153) rfl) rfl
theorem ml_X10_191 : Cond.methodLink RX10 191 yX5_mostWorth ∈ lw_gd := m_in3 (List.mem_of_getElem? (i := 157) rfl) rfl
theorem ml_X5_30 : Cond.methodLink RX5 30 yX5_layOut ∈ lw_gd := m_in3 (List.mem_of_getElem? (i := 161) rfl) rfl
theorem ml_X5_71 : Cond.methodLink RX5 71 yX6_allLots ∈ lw_gd := m_in3 (List.mem_of_getElem? (i := 165) rfl) rfl
theorem ml_X5_79 : Cond.methodLink RX5 79 yX6_countsOf ∈ lw_gd := m_in3 (List.mem_of_getElem? (i := 166) rfl) rfl
theorem ml_X5_86 : Cond.methodLink RX5 86 yX3_of ∈ lw_gd := m_in3 (List.mem_of_getElem? (i := 167) rfl) rfl
theorem ml_X5_92 : Cond.methodLink RX5 92 yX3_one ∈ lw_gd := m_in3 (List.mem_of_getElem? (i := 168) rfl) rfl
theorem ml_X5_57 : Cond.methodLink RX5 57 yX1_isThere ∈ lw_gd := m_in3 (List.mem_of_getElem? (i := 170) rfl) rfl
theorem ml_X5_67 : Cond.methodLink RX5 67 yX5_serve ∈ lw_gd := m_in3 (List.mem_of_getElem? (i := 171) rfl) rfl
theorem ml_X5_83 : Cond.methodLink RX5 83 yX5_distance ∈ lw_gd := m_in3 (List.mem_of_getElem? (i := 175) rfl) rfl
theorem ml_X5_95 : Cond.methodLink RX5 95 yX3_cover ∈ lw_gd := m_in3 (List.mem_of_getElem? (i := 179) rfl) rfl
theorem ml_X5_99 : Cond.methodLink RX5 99 yJ9_max_7cf53 ∈ lw_gd := m_in3 (List.mem_of_getElem? (i := 180) rfl) rfl
theorem ml_X10_194 : Cond.methodLink RX10 194 yX5_share ∈ lw_gd := m_in3 (List.mem_of_getElem? (i := 181) rfl) rfl
theorem ml_X5_75 : Cond.methodLink RX5 75 yX5_leastHeap ∈ lw_gd := m_in3 (List.mem_of_getElem? (i := 185) rfl) rfl
theorem ml_X5_107 : Cond.methodLink RX5 107 yX6_pick ∈ lw_gd := m_in3 (List.mem_of_getElem? (i := 189) rfl) rfl
theorem ml_X5_111 : Cond.methodLink RX5 111 yJ9_min_7cf53 ∈ lw_gd := m_in3 (List.mem_of_getElem? (i := 193) rfl) rfl
theorem ml_L_85 : Cond.methodLink RL 85 yX10_price ∈ lw_gd := m_in3 (List.mem_of_getElem? (i := 194) rfl) rfl
theorem ml_L_89 : Cond.methodLink RL 89 yX10_likes ∈ lw_gd := m_in3 (List.mem_of_getElem? (i := 198) rfl) rfl
theorem ml_X10_201 : Cond.methodLink RX10 201 yX8_look ∈ lw_gd := m_in3 (List.mem_of_getElem? (i := 202) rfl) rfl
theorem ml_X8_28 : Cond.methodLink RX8 28 yX8_sortByPrice ∈ lw_gd := m_in3 (List.mem_of_getElem? (i := 206) rfl) rfl
theorem ml_X8_41 : Cond.methodLink RX8 41 yX8_like ∈ lw_gd := m_in3 (List.mem_of_getElem? (i := 210) rfl) rfl
theorem ml_X8_70 : Cond.methodLink RX8 70 yX1_isThere ∈ lw_gd := m_in3 (List.mem_of_getElem? (i := 214) rfl) rfl
theorem ml_X8_80 : Cond.methodLink RX8 80 yX6_allLots ∈ lw_gd := m_in3 (List.mem_of_getElem? (i := 215) rfl) rfl
theorem ml_X8_83 : Cond.methodLink RX8 83 yX6_pick ∈ lw_gd := m_in3 (List.mem_of_getElem? (i := 216) rfl) rfl
theorem ml_X8_87 : Cond.methodLink RX8 87 yX8_costOf ∈ lw_gd := m_in3 (List.mem_of_getElem? (i := 217) rfl) rfl
theorem ml_L_93 : Cond.methodLink RL 93 yX10_missing ∈ lw_gd := m_in3 (List.mem_of_getElem? (i := 221) rfl) rfl
theorem ml_X10_208 : Cond.methodLink RX10 208 yX8_lack ∈ lw_gd := m_in3 (List.mem_of_getElem? (i := 225) rfl) rfl
theorem ml_L_97 : Cond.methodLink RL 97 yX10_raised ∈ lw_gd := m_in3 (List.mem_of_getElem? (i := 229) rfl) rfl
theorem ml_X10_211 : Cond.methodLink RX10 211 yX8_raise ∈ lw_gd := m_in3 (List.mem_of_getElem? (i := 233) rfl) rfl
theorem ml_X8_51 : Cond.methodLink RX8 51 yX8_look ∈ lw_gd := m_in3 (List.mem_of_getElem? (i := 237) rfl) rfl
theorem ml_X8_54 : Cond.methodLink RX8 54 yX8_lack ∈ lw_gd := m_in3 (List.mem_of_getElem? (i := 238) rfl) rfl
theorem ml_X8_61 : Cond.methodLink RX8 61 yX8_wantedTwice ∈ lw_gd := m_in3 (List.mem_of_getElem? (i := 239) rfl) rfl
theorem ml_L_101 : Cond.methodLink RL 101 yX10_orders ∈ lw_gd := m_in4 (List.mem_of_getElem? (i := 3) rfl) rfl
theorem ml_X10_221 : Cond.methodLink RX10 221 yX2_compare ∈ lw_gd := m_in4 (List.mem_of_getElem? (i := 7) rfl) rfl
theorem ml_X2_51 : Cond.methodLink RX2 51 yX4_open ∈ lw_gd := m_in4 (List.mem_of_getElem? (i := 12) rfl) rfl
theorem ml_X2_57 : Cond.methodLink RX2 57 yX4_run ∈ lw_gd := m_in4 (List.mem_of_getElem? (i := 13) rfl) rfl
theorem ml_X2_60 : Cond.methodLink RX2 60 yX4_worthTogether ∈ lw_gd := m_in4 (List.mem_of_getElem? (i := 14) rfl) rfl
theorem ml_X2_64 : Cond.methodLink RX2 64 yX2_note ∈ lw_gd := m_in4 (List.mem_of_getElem? (i := 18) rfl) rfl
theorem ml_X2_68 : Cond.methodLink RX2 68 yX2_stepOn ∈ lw_gd := m_in4 (List.mem_of_getElem? (i := 22) rfl) rfl
theorem ml_X2_78 : Cond.methodLink RX2 78 yX2_exchange ∈ lw_gd := m_in4 (List.mem_of_getElem? (i := 26) rfl) rfl
theorem ml_L_105 : Cond.methodLink RL 105 yX10_gain ∈ lw_gd := m_in4 (List.mem_of_getElem? (i := 30) rfl) rfl
theorem ml_X10_236 : Cond.methodLink RX10 236 yX4_gainOf ∈ lw_gd := m_in4 (List.mem_of_getElem? (i := 35) rfl) rfl
theorem ml_L_109 : Cond.methodLink RL 109 yX10_cut ∈ lw_gd := m_in4 (List.mem_of_getElem? (i := 39) rfl) rfl
theorem ml_X10_240 : Cond.methodLink RX10 240 yX4_gainWith ∈ lw_gd := m_in4 (List.mem_of_getElem? (i := 44) rfl) rfl
theorem ml_X4_77 : Cond.methodLink RX4 77 yX4_gainOf ∈ lw_gd := m_in4 (List.mem_of_getElem? (i := 48) rfl) rfl
theorem ml_L_113 : Cond.methodLink RL 113 yX10_broken ∈ lw_gd := m_in4 (List.mem_of_getElem? (i := 49) rfl) rfl
theorem ml_X10_243 : Cond.methodLink RX10 243 yX6_alternatives ∈ lw_gd := m_in4 (List.mem_of_getElem? (i := 53) rfl) rfl
theorem ml_X10_245 : Cond.methodLink RX10 245 yX0_find ∈ lw_gd := m_in4 (List.mem_of_getElem? (i := 57) rfl) rfl
theorem ml_X0_27 : Cond.methodLink RX0 27 yX6_alternatives ∈ lw_gd := m_in4 (List.mem_of_getElem? (i := 61) rfl) rfl
theorem ml_X0_33 : Cond.methodLink RX0 33 yJ9_min_7cf53 ∈ lw_gd := m_in4 (List.mem_of_getElem? (i := 62) rfl) rfl
theorem ml_X0_39 : Cond.methodLink RX0 39 yX0_leftAlready ∈ lw_gd := m_in4 (List.mem_of_getElem? (i := 63) rfl) rfl
theorem ml_X0_46 : Cond.methodLink RX0 46 yJ6_bitCount_0f7a4 ∈ lw_gd := m_in4 (List.mem_of_getElem? (i := 67) rfl) rfl
theorem ml_X0_52 : Cond.methodLink RX0 52 yX0_endsFair ∈ lw_gd := m_in4 (List.mem_of_getElem? (i := 73) rfl) rfl
theorem ml_X0_56 : Cond.methodLink RX0 56 yX0_leaveOut ∈ lw_gd := m_in4 (List.mem_of_getElem? (i := 77) rfl) rfl
theorem ml_X0_60 : Cond.methodLink RX0 60 yX5_mostWorth ∈ lw_gd := m_in4 (List.mem_of_getElem? (i := 81) rfl) rfl
theorem ml_X0_65 : Cond.methodLink RX0 65 yX8_raise ∈ lw_gd := m_in4 (List.mem_of_getElem? (i := 82) rfl) rfl
theorem ml_X10_251 : Cond.methodLink RX10 251 yJ6_bitCount_0f7a4 ∈ lw_gd := m_in4 (List.mem_of_getElem? (i := 83) rfl) rfl
theorem ml_L_117 : Cond.methodLink RL 117 yX10_lesson ∈ lw_gd := m_in4 (List.mem_of_getElem? (i := 84) rfl) rfl
theorem ml_L_121 : Cond.methodLink RL 121 yX10_unlearn ∈ lw_gd := m_in4 (List.mem_of_getElem? (i := 88) rfl) rfl
theorem ml_L_125 : Cond.methodLink RL 125 yX10_learn ∈ lw_gd := m_in4 (List.mem_of_getElem? (i := 92) rfl) rfl
theorem ml_X10_260 : Cond.methodLink RX10 260 yX7_follow ∈ lw_gd := m_in4 (List.mem_of_getElem? (i := 96) rfl) rfl
theorem ml_X7_32 : Cond.methodLink RX7 32 yX7_leader ∈ lw_gd := m_in4 (List.mem_of_getElem? (i := 100) rfl) rfl
theorem ml_X7_36 : Cond.methodLink RX7 36 yX4_gainWith ∈ lw_gd := m_in4 (List.mem_of_getElem? (i := 104) rfl) rfl
theorem ml_X10_269 : Cond.methodLink RX10 269 yX7_leader ∈ lw_gd := m_in4 (List.mem_of_getElem? (i := 105) rfl) rfl
theorem ml_L_129 : Cond.methodLink RL 129 yX10_told ∈ lw_gd := m_in4 (List.mem_of_getElem? (i := 106) rfl) rfl
theorem ml_L_12 : Cond.methodLink RL 12 yX11_init ∈ lw_gd := m_in4 (List.mem_of_getElem? (i := 112) rfl) rfl
theorem ml_L_17 : Cond.methodLink RL 17 yX11_lot ∈ lw_gd := m_in4 (List.mem_of_getElem? (i := 234) rfl) rfl
theorem ml_X11_110 : Cond.methodLink RX11 110 yX11_in ∈ lw_gd := m_in4 (List.mem_of_getElem? (i := 239) rfl) rfl
theorem ml_L_22 : Cond.methodLink RL 22 yX11_buyer ∈ lw_gd := m_in5 (List.mem_of_getElem? (i := 4) rfl) rfl
theorem ml_L_26 : Cond.methodLink RL 26 yX11_set ∈ lw_gd := m_in5 (List.mem_of_getElem? (i := 8) rfl) rfl
theorem ml_X11_123 : Cond.methodLink RX11 123 yX11_isBuyer ∈ lw_gd := m_in5 (List.mem_of_getElem? (i := 12) rfl) rfl
theorem ml_L_31 : Cond.methodLink RL 31 yX11_say ∈ lw_gd := m_in5 (List.mem_of_getElem? (i := 18) rfl) rfl
theorem ml_L_35 : Cond.methodLink RL 35 yX11_wipe ∈ lw_gd := m_in5 (List.mem_of_getElem? (i := 24) rfl) rfl
theorem ml_L_39 : Cond.methodLink RL 39 yX11_fault ∈ lw_gd := m_in5 (List.mem_of_getElem? (i := 28) rfl) rfl
theorem ml_X11_148 : Cond.methodLink RX11 148 yX11_stepOf ∈ lw_gd := m_in5 (List.mem_of_getElem? (i := 32) rfl) rfl
theorem ml_L_43 : Cond.methodLink RL 43 yX11_wish ∈ lw_gd := m_in5 (List.mem_of_getElem? (i := 40) rfl) rfl
theorem ml_X11_152 : Cond.methodLink RX11 152 yX11_fault ∈ lw_gd := m_in5 (List.mem_of_getElem? (i := 44) rfl) rfl
theorem ml_L_47 : Cond.methodLink RL 47 yX11_alternative ∈ lw_gd := m_in5 (List.mem_of_getElem? (i := 45) rfl) rfl
theorem ml_L_52 : Cond.methodLink RL 52 yX11_leave ∈ lw_gd := m_in5 (List.mem_of_getElem? (i := 50) rfl) rfl
theorem ml_L_56 : Cond.methodLink RL 56 yX11_worth ∈ lw_gd := m_in5 (List.mem_of_getElem? (i := 54) rfl) rfl
theorem ml_X11_162 : Cond.methodLink RX11 162 yX11_isHeap ∈ lw_gd := m_in5 (List.mem_of_getElem? (i := 58) rfl) rfl
theorem ml_X11_165 : Cond.methodLink RX11 165 yX11_bestOf ∈ lw_gd := m_in5 (List.mem_of_getElem? (i := 62) rfl) rfl
theorem ml_X11_158 : Cond.methodLink RX11 158 yX11_isMet ∈ lw_gd := m_in5 (List.mem_of_getElem? (i := 66) rfl) rfl
theorem ml_L_60 : Cond.methodLink RL 60 yX11_why ∈ lw_gd := m_in5 (List.mem_of_getElem? (i := 70) rfl) rfl
theorem ml_L_64 : Cond.methodLink RL 64 yX11_top ∈ lw_gd := m_in5 (List.mem_of_getElem? (i := 74) rfl) rfl
theorem ml_L_68 : Cond.methodLink RL 68 yX11_swap ∈ lw_gd := m_in5 (List.mem_of_getElem? (i := 78) rfl) rfl
theorem ml_X11_169 : Cond.methodLink RX11 169 yX11_isLot ∈ lw_gd := m_in5 (List.mem_of_getElem? (i := 82) rfl) rfl
theorem ml_L_72 : Cond.methodLink RL 72 yX11_order ∈ lw_gd := m_in5 (List.mem_of_getElem? (i := 86) rfl) rfl
theorem ml_L_76 : Cond.methodLink RL 76 yX11_sold ∈ lw_gd := m_in5 (List.mem_of_getElem? (i := 90) rfl) rfl
theorem ml_X11_182 : Cond.methodLink RX11 182 yX11_layWorths ∈ lw_gd := m_in5 (List.mem_of_getElem? (i := 94) rfl) rfl
theorem ml_X11_185 : Cond.methodLink RX11 185 yX11_runDay ∈ lw_gd := m_in5 (List.mem_of_getElem? (i := 98) rfl) rfl
theorem ml_X11_172 : Cond.methodLink RX11 172 yX11_nextPlace ∈ lw_gd := m_in5 (List.mem_of_getElem? (i := 102) rfl) rfl
theorem ml_X11_175 : Cond.methodLink RX11 175 yX11_presser ∈ lw_gd := m_in5 (List.mem_of_getElem? (i := 106) rfl) rfl
theorem ml_X11_178 : Cond.methodLink RX11 178 yX11_sell ∈ lw_gd := m_in5 (List.mem_of_getElem? (i := 110) rfl) rfl
theorem ml_L_80 : Cond.methodLink RL 80 yX11_day ∈ lw_gd := m_in5 (List.mem_of_getElem? (i := 114) rfl) rfl
theorem ml_X11_191 : Cond.methodLink RX11 191 yX11_worthOfDay ∈ lw_gd := m_in5 (List.mem_of_getElem? (i := 119) rfl) rfl
theorem ml_L_84 : Cond.methodLink RL 84 yX11_dealt ∈ lw_gd := m_in5 (List.mem_of_getElem? (i := 123) rfl) rfl
theorem ml_X11_195 : Cond.methodLink RX11 195 yX11_findDealt ∈ lw_gd := m_in5 (List.mem_of_getElem? (i := 127) rfl) rfl
theorem ml_X11_198 : Cond.methodLink RX11 198 yX11_dealtWorth ∈ lw_gd := m_in5 (List.mem_of_getElem? (i := 131) rfl) rfl
theorem ml_L_88 : Cond.methodLink RL 88 yX11_price ∈ lw_gd := m_in5 (List.mem_of_getElem? (i := 135) rfl) rfl
theorem ml_L_92 : Cond.methodLink RL 92 yX11_likes ∈ lw_gd := m_in5 (List.mem_of_getElem? (i := 139) rfl) rfl
theorem ml_X11_205 : Cond.methodLink RX11 205 yX11_liked ∈ lw_gd := m_in5 (List.mem_of_getElem? (i := 143) rfl) rfl
theorem ml_X11_201 : Cond.methodLink RX11 201 yX11_costOf ∈ lw_gd := m_in5 (List.mem_of_getElem? (i := 147) rfl) rfl
theorem ml_X11_208 : Cond.methodLink RX11 208 yX11_over ∈ lw_gd := m_in5 (List.mem_of_getElem? (i := 151) rfl) rfl
theorem ml_L_96 : Cond.methodLink RL 96 yX11_missing ∈ lw_gd := m_in5 (List.mem_of_getElem? (i := 155) rfl) rfl
theorem ml_X11_212 : Cond.methodLink RX11 212 yX11_missingBy ∈ lw_gd := m_in5 (List.mem_of_getElem? (i := 159) rfl) rfl
theorem ml_L_100 : Cond.methodLink RL 100 yX11_raised ∈ lw_gd := m_in5 (List.mem_of_getElem? (i := 163) rfl) rfl
theorem ml_X11_223 : Cond.methodLink RX11 223 yX11_raise ∈ lw_gd := m_in5 (List.mem_of_getElem? (i := 169) rfl) rfl
theorem ml_L_104 : Cond.methodLink RL 104 yX11_orders ∈ lw_gd := m_in5 (List.mem_of_getElem? (i := 173) rfl) rfl
theorem ml_X11_250 : Cond.methodLink RX11 250 yX11_findOrders ∈ lw_gd := m_in5 (List.mem_of_getElem? (i := 180) rfl) rfl
theorem ml_X11_237 : Cond.methodLink RX11 237 yX11_worthOfAll ∈ lw_gd := m_in5 (List.mem_of_getElem? (i := 185) rfl) rfl
theorem ml_X11_240 : Cond.methodLink RX11 240 yX11_nextOrder ∈ lw_gd := m_in5 (List.mem_of_getElem? (i := 189) rfl) rfl
theorem ml_X11_226 : Cond.methodLink RX11 226 yX11_exchange ∈ lw_gd := m_in5 (List.mem_of_getElem? (i := 193) rfl) rfl
theorem ml_L_108 : Cond.methodLink RL 108 yX11_gain ∈ lw_gd := m_in5 (List.mem_of_getElem? (i := 197) rfl) rfl
theorem ml_X11_254 : Cond.methodLink RX11 254 yX11_gainOf ∈ lw_gd := m_in5 (List.mem_of_getElem? (i := 202) rfl) rfl
theorem ml_L_112 : Cond.methodLink RL 112 yX11_cut ∈ lw_gd := m_in5 (List.mem_of_getElem? (i := 206) rfl) rfl
theorem ml_L_116 : Cond.methodLink RL 116 yX11_broken ∈ lw_gd := m_in5 (List.mem_of_getElem? (i := 212) rfl) rfl
theorem ml_X11_259 : Cond.methodLink RX11 259 yX11_allWishes ∈ lw_gd := m_in5 (List.mem_of_getElem? (i := 216) rfl) rfl
theorem ml_X11_262 : Cond.methodLink RX11 262 yX11_ones ∈ lw_gd := m_in5 (List.mem_of_getElem? (i := 220) rfl) rfl
theorem ml_X11_265 : Cond.methodLink RX11 265 yX11_leaveAll ∈ lw_gd := m_in5 (List.mem_of_getElem? (i := 223) rfl) rfl
theorem ml_L_120 : Cond.methodLink RL 120 yX11_lesson ∈ lw_gd := m_in5 (List.mem_of_getElem? (i := 227) rfl) rfl
theorem ml_L_124 : Cond.methodLink RL 124 yX11_unlearn ∈ lw_gd := m_in5 (List.mem_of_getElem? (i := 231) rfl) rfl
theorem ml_L_128 : Cond.methodLink RL 128 yX11_learn ∈ lw_gd := m_in5 (List.mem_of_getElem? (i := 235) rfl) rfl
theorem ml_X11_276 : Cond.methodLink RX11 276 yX11_bestAhead ∈ lw_gd := m_in6 (List.mem_of_getElem? (i := 0) rfl) rfl
theorem ml_X11_271 : Cond.methodLink RX11 271 yX11_broughtAhead ∈ lw_gd := m_in6 (List.mem_of_getElem? (i := 4) rfl) rfl
theorem ml_L_132 : Cond.methodLink RL 132 yX11_told ∈ lw_gd := m_in6 (List.mem_of_getElem? (i := 8) rfl) rfl
