set_option maxRecDepth 100000 in
theorem mok_Oak_would : oMok k_Oak_would := ⟨by decide, oDecB_ok (by decide +kernel), by rfl⟩
set_option maxRecDepth 100000 in
theorem mok_Oak_feed : oMok k_Oak_feed := ⟨by decide, oDecB_ok (by decide +kernel), by rfl⟩
set_option maxRecDepth 100000 in
theorem mok_Oak_trim : oMok k_Oak_trim := ⟨by decide, oDecB_ok (by decide +kernel), by rfl⟩
set_option maxRecDepth 100000 in
theorem mok_Oak_text : oMok k_Oak_text := ⟨by decide, oDecB_ok (by decide +kernel), by rfl⟩
set_option maxRecDepth 100000 in
theorem mok_Oak_textTold : oMok k_Oak_textTold := ⟨by decide, oDecB_ok (by decide +kernel), by rfl⟩
set_option maxRecDepth 100000 in
theorem mok_Oak_why : oMok k_Oak_why := ⟨by decide, oDecB_ok (by decide +kernel), by rfl⟩
set_option maxRecDepth 100000 in
theorem mok_Oak_sheet : oMok k_Oak_sheet := ⟨by decide, oDecB_ok (by decide +kernel), by rfl⟩
set_option maxRecDepth 100000 in
theorem mok_Oak_mark : oMok k_Oak_mark := ⟨by decide, oDecB_ok (by decide +kernel), by rfl⟩
set_option maxRecDepth 100000 in
theorem mok_Oak_pour : oMok k_Oak_pour := ⟨by decide, oDecB_ok (by decide +kernel), by rfl⟩
set_option maxRecDepth 100000 in
theorem mok_Oak_reads : oMok k_Oak_reads := ⟨by decide, oDecB_ok (by decide +kernel), by rfl⟩
set_option maxRecDepth 100000 in
theorem mok_Oak_copy : oMok k_Oak_copy := ⟨by decide, oDecB_ok (by decide +kernel), by rfl⟩
set_option maxRecDepth 100000 in
theorem mok_Oak_lay : oMok k_Oak_lay := ⟨by decide, oDecB_ok (by decide +kernel), by rfl⟩
set_option maxRecDepth 100000 in
theorem mok_Oak_ask : oMok k_Oak_ask := ⟨by decide, oDecB_ok (by decide +kernel), by rfl⟩
set_option maxRecDepth 100000 in
theorem mok_Oak_item : oMok k_Oak_item := ⟨by decide, oDecB_ok (by decide +kernel), by rfl⟩
set_option maxRecDepth 100000 in
theorem mok_Oak_rest : oMok k_Oak_rest := ⟨by decide, oDecB_ok (by decide +kernel), by rfl⟩
set_option maxRecDepth 100000 in
theorem mok_Oak_tell : oMok k_Oak_tell := ⟨by decide, oDecB_ok (by decide +kernel), by rfl⟩
set_option maxRecDepth 100000 in
theorem mok_Oak_check : oMok k_Oak_check := ⟨by decide, oDecB_ok (by decide +kernel), by rfl⟩
set_option maxRecDepth 100000 in
theorem mok_Oak_keep : oMok k_Oak_keep := ⟨by decide, oDecB_ok (by decide +kernel), by rfl⟩
set_option maxRecDepth 100000 in
theorem mok_Oak_back : oMok k_Oak_back := ⟨by decide, oDecB_ok (by decide +kernel), by rfl⟩
set_option maxRecDepth 100000 in
theorem mok_Oak_count : oMok k_Oak_count := ⟨by decide, oDecB_ok (by decide +kernel), by rfl⟩
set_option maxRecDepth 100000 in
theorem mok_Oak_isWithin : oMok k_Oak_isWithin := ⟨by decide, oDecB_ok (by decide +kernel), by rfl⟩
set_option maxRecDepth 100000 in
theorem mok_Oak_isStonePlace : oMok k_Oak_isStonePlace := ⟨by decide, oDecB_ok (by decide +kernel), by rfl⟩
set_option maxRecDepth 100000 in
theorem mok_Oak_isCell : oMok k_Oak_isCell := ⟨by decide, oDecB_ok (by decide +kernel), by rfl⟩
set_option maxRecDepth 100000 in
theorem mok_Oak_isYear : oMok k_Oak_isYear := ⟨by decide, oDecB_ok (by decide +kernel), by rfl⟩
set_option maxRecDepth 100000 in
theorem mok_Oak_isSlack : oMok k_Oak_isSlack := ⟨by decide, oDecB_ok (by decide +kernel), by rfl⟩
set_option maxRecDepth 100000 in
theorem mok_Oak_isKind : oMok k_Oak_isKind := ⟨by decide, oDecB_ok (by decide +kernel), by rfl⟩
set_option maxRecDepth 100000 in
theorem mok_Oak_isRun : oMok k_Oak_isRun := ⟨by decide, oDecB_ok (by decide +kernel), by rfl⟩
set_option maxRecDepth 100000 in
theorem mok_Oak_isSheet : oMok k_Oak_isSheet := ⟨by decide, oDecB_ok (by decide +kernel), by rfl⟩
set_option maxRecDepth 100000 in
theorem mok_Oak_isSlot : oMok k_Oak_isSlot := ⟨by decide, oDecB_ok (by decide +kernel), by rfl⟩
set_option maxRecDepth 100000 in
theorem mok_Oak_isOfKind : oMok k_Oak_isOfKind := ⟨by decide, oDecB_ok (by decide +kernel), by rfl⟩
set_option maxRecDepth 100000 in
theorem mok_Oak_worthOf : oMok k_Oak_worthOf := ⟨by decide, oDecB_ok (by decide +kernel), by rfl⟩
set_option maxRecDepth 100000 in
theorem mok_Oak_trueOf : oMok k_Oak_trueOf := ⟨by decide, oDecB_ok (by decide +kernel), by rfl⟩
set_option maxRecDepth 100000 in
theorem mok_Oak_farApart : oMok k_Oak_farApart := ⟨by decide, oDecB_ok (by decide +kernel), by rfl⟩
set_option maxRecDepth 100000 in
theorem mok_Oak_countBits : oMok k_Oak_countBits := ⟨by decide, oDecB_ok (by decide +kernel), by rfl⟩
set_option maxRecDepth 100000 in
theorem mok_Oak_isLetter : oMok k_Oak_isLetter := ⟨by decide, oDecB_ok (by decide +kernel), by rfl⟩
set_option maxRecDepth 100000 in
theorem mok_Mod_in : oMok k_Mod_in := ⟨by decide, oDecB_ok (by decide +kernel), by rfl⟩
set_option maxRecDepth 100000 in
theorem mok_Mod_within : oMok k_Mod_within := ⟨by decide, oDecB_ok (by decide +kernel), by rfl⟩
set_option maxRecDepth 100000 in
theorem mok_Mod_size : oMok k_Mod_size := ⟨by decide, oDecB_ok (by decide +kernel), by rfl⟩
set_option maxRecDepth 100000 in
theorem mok_Mod_copyAll : oMok k_Mod_copyAll := ⟨by decide, oDecB_ok (by decide +kernel), by rfl⟩
set_option maxRecDepth 100000 in
theorem mok_Mod_isStone : oMok k_Mod_isStone := ⟨by decide, oDecB_ok (by decide +kernel), by rfl⟩
set_option maxRecDepth 100000 in
theorem mok_Mod_isDeed : oMok k_Mod_isDeed := ⟨by decide, oDecB_ok (by decide +kernel), by rfl⟩
set_option maxRecDepth 100000 in
theorem mok_Mod_of : oMok k_Mod_of := ⟨by decide, oDecB_ok (by decide +kernel), by rfl⟩
set_option maxRecDepth 100000 in
theorem mok_Mod_isCall : oMok k_Mod_isCall := ⟨by decide, oDecB_ok (by decide +kernel), by rfl⟩
set_option maxRecDepth 100000 in
theorem mok_Mod_callOf : oMok k_Mod_callOf := ⟨by decide, oDecB_ok (by decide +kernel), by rfl⟩
set_option maxRecDepth 100000 in
theorem mok_Mod_isSpot : oMok k_Mod_isSpot := ⟨by decide, oDecB_ok (by decide +kernel), by rfl⟩
set_option maxRecDepth 100000 in
theorem mok_Mod_stone : oMok k_Mod_stone := ⟨by decide, oDecB_ok (by decide +kernel), by rfl⟩
set_option maxRecDepth 100000 in
theorem mok_Mod_stoneTold : oMok k_Mod_stoneTold := ⟨by decide, oDecB_ok (by decide +kernel), by rfl⟩
set_option maxRecDepth 100000 in
theorem mok_Mod_move : oMok k_Mod_move := ⟨by decide, oDecB_ok (by decide +kernel), by rfl⟩
set_option maxRecDepth 100000 in
theorem mok_Mod_isCell : oMok k_Mod_isCell := ⟨by decide, oDecB_ok (by decide +kernel), by rfl⟩
set_option maxRecDepth 100000 in
theorem mok_Mod_deed : oMok k_Mod_deed := ⟨by decide, oDecB_ok (by decide +kernel), by rfl⟩
set_option maxRecDepth 100000 in
theorem mok_Mod_needleOf : oMok k_Mod_needleOf := ⟨by decide, oDecB_ok (by decide +kernel), by rfl⟩
set_option maxRecDepth 100000 in
theorem mok_Mod_chainOf : oMok k_Mod_chainOf := ⟨by decide, oDecB_ok (by decide +kernel), by rfl⟩
set_option maxRecDepth 100000 in
theorem mok_Mod_rankOf : oMok k_Mod_rankOf := ⟨by decide, oDecB_ok (by decide +kernel), by rfl⟩
set_option maxRecDepth 100000 in
theorem mok_Mod_deedTold : oMok k_Mod_deedTold := ⟨by decide, oDecB_ok (by decide +kernel), by rfl⟩
set_option maxRecDepth 100000 in
theorem mok_Mod_set : oMok k_Mod_set := ⟨by decide, oDecB_ok (by decide +kernel), by rfl⟩
