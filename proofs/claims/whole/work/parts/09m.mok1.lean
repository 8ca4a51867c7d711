set_option maxRecDepth 100000 in
theorem mok_Text_takeFrom : oMok k_Text_takeFrom := ⟨by decide, oDecB_ok (by decide +kernel), by rfl⟩
set_option maxRecDepth 100000 in
theorem mok_Walk_setOut : oMok k_Walk_setOut := ⟨by decide, oDecB_ok (by decide +kernel), by rfl⟩
set_option maxRecDepth 100000 in
theorem mok_Walk_stepBy : oMok k_Walk_stepBy := ⟨by decide, oDecB_ok (by decide +kernel), by rfl⟩
set_option maxRecDepth 100000 in
theorem mok_Walk_goOn : oMok k_Walk_goOn := ⟨by decide, oDecB_ok (by decide +kernel), by rfl⟩
set_option maxRecDepth 100000 in
theorem mok_Walk_traceDeed : oMok k_Walk_traceDeed := ⟨by decide, oDecB_ok (by decide +kernel), by rfl⟩
set_option maxRecDepth 100000 in
theorem mok_Walk_cornersInRow : oMok k_Walk_cornersInRow := ⟨by decide, oDecB_ok (by decide +kernel), by rfl⟩
set_option maxRecDepth 100000 in
theorem mok_Walk_twiceArea : oMok k_Walk_twiceArea := ⟨by decide, oDecB_ok (by decide +kernel), by rfl⟩
set_option maxRecDepth 100000 in
theorem mok_Walk_nextCorner : oMok k_Walk_nextCorner := ⟨by decide, oDecB_ok (by decide +kernel), by rfl⟩
set_option maxRecDepth 100000 in
theorem mok_Walk_gapHere : oMok k_Walk_gapHere := ⟨by decide, oDecB_ok (by decide +kernel), by rfl⟩
set_option maxRecDepth 100000 in
theorem mok_Walk_gapBy : oMok k_Walk_gapBy := ⟨by decide, oDecB_ok (by decide +kernel), by rfl⟩
set_option maxRecDepth 100000 in
theorem mok_Walk_gapWithSlip : oMok k_Walk_gapWithSlip := ⟨by decide, oDecB_ok (by decide +kernel), by rfl⟩
set_option maxRecDepth 100000 in
theorem mok_Walk_findBestSlip : oMok k_Walk_findBestSlip := ⟨by decide, oDecB_ok (by decide +kernel), by rfl⟩
set_option maxRecDepth 100000 in
theorem mok_Walk_findBestNeedle : oMok k_Walk_findBestNeedle := ⟨by decide, oDecB_ok (by decide +kernel), by rfl⟩
set_option maxRecDepth 100000 in
theorem mok_Walk_findBestChain : oMok k_Walk_findBestChain := ⟨by decide, oDecB_ok (by decide +kernel), by rfl⟩
set_option maxRecDepth 100000 in
theorem mok_Walk_takeIfBetter : oMok k_Walk_takeIfBetter := ⟨by decide, oDecB_ok (by decide +kernel), by rfl⟩
set_option maxRecDepth 100000 in
theorem mok_Walk_learntOf : oMok k_Walk_learntOf := ⟨by decide, oDecB_ok (by decide +kernel), by rfl⟩
set_option maxRecDepth 100000 in
theorem mok_Oak_stone : oMok k_Oak_stone := ⟨by decide, oDecB_ok (by decide +kernel), by rfl⟩
set_option maxRecDepth 100000 in
theorem mok_Oak_stoneTold : oMok k_Oak_stoneTold := ⟨by decide, oDecB_ok (by decide +kernel), by rfl⟩
set_option maxRecDepth 100000 in
theorem mok_Oak_move : oMok k_Oak_move := ⟨by decide, oDecB_ok (by decide +kernel), by rfl⟩
set_option maxRecDepth 100000 in
theorem mok_Oak_deed : oMok k_Oak_deed := ⟨by decide, oDecB_ok (by decide +kernel), by rfl⟩
set_option maxRecDepth 100000 in
theorem mok_Oak_deedTold : oMok k_Oak_deedTold := ⟨by decide, oDecB_ok (by decide +kernel), by rfl⟩
set_option maxRecDepth 100000 in
theorem mok_Oak_set : oMok k_Oak_set := ⟨by decide, oDecB_ok (by decide +kernel), by rfl⟩
set_option maxRecDepth 100000 in
theorem mok_Oak_call : oMok k_Oak_call := ⟨by decide, oDecB_ok (by decide +kernel), by rfl⟩
set_option maxRecDepth 100000 in
theorem mok_Oak_told : oMok k_Oak_told := ⟨by decide, oDecB_ok (by decide +kernel), by rfl⟩
set_option maxRecDepth 100000 in
theorem mok_Oak_as : oMok k_Oak_as := ⟨by decide, oDecB_ok (by decide +kernel), by rfl⟩
set_option maxRecDepth 100000 in
theorem mok_Oak_turns : oMok k_Oak_turns := ⟨by decide, oDecB_ok (by decide +kernel), by rfl⟩
set_option maxRecDepth 100000 in
theorem mok_Oak_drop : oMok k_Oak_drop := ⟨by decide, oDecB_ok (by decide +kernel), by rfl⟩
set_option maxRecDepth 100000 in
theorem mok_Oak_deal : oMok k_Oak_deal := ⟨by decide, oDecB_ok (by decide +kernel), by rfl⟩
set_option maxRecDepth 100000 in
theorem mok_Oak_seed : oMok k_Oak_seed := ⟨by decide, oDecB_ok (by decide +kernel), by rfl⟩
set_option maxRecDepth 100000 in
theorem mok_Oak_corner : oMok k_Oak_corner := ⟨by decide, oDecB_ok (by decide +kernel), by rfl⟩
set_option maxRecDepth 100000 in
theorem mok_Oak_gap : oMok k_Oak_gap := ⟨by decide, oDecB_ok (by decide +kernel), by rfl⟩
set_option maxRecDepth 100000 in
theorem mok_Oak_area : oMok k_Oak_area := ⟨by decide, oDecB_ok (by decide +kernel), by rfl⟩
set_option maxRecDepth 100000 in
theorem mok_Oak_holds : oMok k_Oak_holds := ⟨by decide, oDecB_ok (by decide +kernel), by rfl⟩
set_option maxRecDepth 100000 in
theorem mok_Oak_field : oMok k_Oak_field := ⟨by decide, oDecB_ok (by decide +kernel), by rfl⟩
set_option maxRecDepth 100000 in
theorem mok_Oak_over : oMok k_Oak_over := ⟨by decide, oDecB_ok (by decide +kernel), by rfl⟩
set_option maxRecDepth 100000 in
theorem mok_Oak_whose : oMok k_Oak_whose := ⟨by decide, oDecB_ok (by decide +kernel), by rfl⟩
set_option maxRecDepth 100000 in
theorem mok_Oak_owned : oMok k_Oak_owned := ⟨by decide, oDecB_ok (by decide +kernel), by rfl⟩
set_option maxRecDepth 100000 in
theorem mok_Oak_slip : oMok k_Oak_slip := ⟨by decide, oDecB_ok (by decide +kernel), by rfl⟩
set_option maxRecDepth 100000 in
theorem mok_Oak_best : oMok k_Oak_best := ⟨by decide, oDecB_ok (by decide +kernel), by rfl⟩
set_option maxRecDepth 100000 in
theorem mok_Oak_learn : oMok k_Oak_learn := ⟨by decide, oDecB_ok (by decide +kernel), by rfl⟩
set_option maxRecDepth 100000 in
theorem mok_Oak_near : oMok k_Oak_near := ⟨by decide, oDecB_ok (by decide +kernel), by rfl⟩
