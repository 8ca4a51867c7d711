set_option maxRecDepth 100000 in
theorem mok_Mod_learn : oMok k_Mod_learn := ⟨by decide, oDecB_ok (by decide +kernel), by rfl⟩
set_option maxRecDepth 100000 in
theorem mok_Mod_near : oMok k_Mod_near := ⟨by decide, oDecB_ok (by decide +kernel), by rfl⟩
set_option maxRecDepth 100000 in
theorem mok_Mod_would : oMok k_Mod_would := ⟨by decide, oDecB_ok (by decide +kernel), by rfl⟩
set_option maxRecDepth 100000 in
theorem mok_Mod_feed : oMok k_Mod_feed := ⟨by decide, oDecB_ok (by decide +kernel), by rfl⟩
set_option maxRecDepth 100000 in
theorem mok_Mod_trim : oMok k_Mod_trim := ⟨by decide, oDecB_ok (by decide +kernel), by rfl⟩
set_option maxRecDepth 100000 in
theorem mok_Mod_isLetter : oMok k_Mod_isLetter := ⟨by decide, oDecB_ok (by decide +kernel), by rfl⟩
set_option maxRecDepth 100000 in
theorem mok_Mod_isFigure : oMok k_Mod_isFigure := ⟨by decide, oDecB_ok (by decide +kernel), by rfl⟩
set_option maxRecDepth 100000 in
theorem mok_Mod_go : oMok k_Mod_go := ⟨by decide, oDecB_ok (by decide +kernel), by rfl⟩
set_option maxRecDepth 100000 in
theorem mok_Mod_takesKey : oMok k_Mod_takesKey := ⟨by decide, oDecB_ok (by decide +kernel), by rfl⟩
set_option maxRecDepth 100000 in
theorem mok_Mod_nameOf : oMok k_Mod_nameOf := ⟨by decide, oDecB_ok (by decide +kernel), by rfl⟩
set_option maxRecDepth 100000 in
theorem mok_Mod_rank : oMok k_Mod_rank := ⟨by decide, oDecB_ok (by decide +kernel), by rfl⟩
set_option maxRecDepth 100000 in
theorem mok_Mod_settle : oMok k_Mod_settle := ⟨by decide, oDecB_ok (by decide +kernel), by rfl⟩
set_option maxRecDepth 100000 in
theorem mok_Mod_signHere : oMok k_Mod_signHere := ⟨by decide, oDecB_ok (by decide +kernel), by rfl⟩
set_option maxRecDepth 100000 in
theorem mok_Mod_takesPart : oMok k_Mod_takesPart := ⟨by decide, oDecB_ok (by decide +kernel), by rfl⟩
set_option maxRecDepth 100000 in
theorem mok_Mod_takesE : oMok k_Mod_takesE := ⟨by decide, oDecB_ok (by decide +kernel), by rfl⟩
set_option maxRecDepth 100000 in
theorem mok_Mod_notsOpen : oMok k_Mod_notsOpen := ⟨by decide, oDecB_ok (by decide +kernel), by rfl⟩
set_option maxRecDepth 100000 in
theorem mok_Mod_text : oMok k_Mod_text := ⟨by decide, oDecB_ok (by decide +kernel), by rfl⟩
set_option maxRecDepth 100000 in
theorem mok_Mod_textTold : oMok k_Mod_textTold := ⟨by decide, oDecB_ok (by decide +kernel), by rfl⟩
set_option maxRecDepth 100000 in
theorem mok_Mod_counts : oMok k_Mod_counts := ⟨by decide, oDecB_ok (by decide +kernel), by rfl⟩
set_option maxRecDepth 100000 in
theorem mok_Mod_why : oMok k_Mod_why := ⟨by decide, oDecB_ok (by decide +kernel), by rfl⟩
set_option maxRecDepth 100000 in
theorem mok_Mod_two : oMok k_Mod_two := ⟨by decide, oDecB_ok (by decide +kernel), by rfl⟩
set_option maxRecDepth 100000 in
theorem mok_Mod_worksOut : oMok k_Mod_worksOut := ⟨by decide, oDecB_ok (by decide +kernel), by rfl⟩
set_option maxRecDepth 100000 in
theorem mok_Mod_isSheet : oMok k_Mod_isSheet := ⟨by decide, oDecB_ok (by decide +kernel), by rfl⟩
set_option maxRecDepth 100000 in
theorem mok_Mod_isSlot : oMok k_Mod_isSlot := ⟨by decide, oDecB_ok (by decide +kernel), by rfl⟩
set_option maxRecDepth 100000 in
theorem mok_Mod_sheet : oMok k_Mod_sheet := ⟨by decide, oDecB_ok (by decide +kernel), by rfl⟩
set_option maxRecDepth 100000 in
theorem mok_Mod_mark : oMok k_Mod_mark := ⟨by decide, oDecB_ok (by decide +kernel), by rfl⟩
