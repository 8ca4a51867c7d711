set_option maxRecDepth 100000 in
theorem mok_Cells_isHeld : oMok k_Cells_isHeld := ⟨by decide, oDecB_ok (by decide +kernel), by rfl⟩
set_option maxRecDepth 100000 in
theorem mok_Cells_fillDeed : oMok k_Cells_fillDeed := ⟨by decide, oDecB_ok (by decide +kernel), by rfl⟩
set_option maxRecDepth 100000 in
theorem mok_Cells_addSide : oMok k_Cells_addSide := ⟨by decide, oDecB_ok (by decide +kernel), by rfl⟩
set_option maxRecDepth 100000 in
theorem mok_Cells_fillOwners : oMok k_Cells_fillOwners := ⟨by decide, oDecB_ok (by decide +kernel), by rfl⟩
set_option maxRecDepth 100000 in
theorem mok_Cells_firstUnserved : oMok k_Cells_firstUnserved := ⟨by decide, oDecB_ok (by decide +kernel), by rfl⟩
set_option maxRecDepth 100000 in
theorem mok_Cells_countUnlike : oMok k_Cells_countUnlike := ⟨by decide, oDecB_ok (by decide +kernel), by rfl⟩
set_option maxRecDepth 100000 in
theorem mok_Deed_beginAt : oMok k_Deed_beginAt := ⟨by decide, oDecB_ok (by decide +kernel), by rfl⟩
set_option maxRecDepth 100000 in
theorem mok_Deed_hasNumber : oMok k_Deed_hasNumber := ⟨by decide, oDecB_ok (by decide +kernel), by rfl⟩
set_option maxRecDepth 100000 in
theorem mok_Deed_addCall : oMok k_Deed_addCall := ⟨by decide, oDecB_ok (by decide +kernel), by rfl⟩
set_option maxRecDepth 100000 in
theorem mok_Deed_removeCall : oMok k_Deed_removeCall := ⟨by decide, oDecB_ok (by decide +kernel), by rfl⟩
set_option maxRecDepth 100000 in
theorem mok_Deed_takeFrom : oMok k_Deed_takeFrom := ⟨by decide, oDecB_ok (by decide +kernel), by rfl⟩
set_option maxRecDepth 100000 in
theorem mok_Land_takeFrom : oMok k_Land_takeFrom := ⟨by decide, oDecB_ok (by decide +kernel), by rfl⟩
set_option maxRecDepth 100000 in
theorem mok_Land_hasStone : oMok k_Land_hasStone := ⟨by decide, oDecB_ok (by decide +kernel), by rfl⟩
set_option maxRecDepth 100000 in
theorem mok_Land_hasDeed : oMok k_Land_hasDeed := ⟨by decide, oDecB_ok (by decide +kernel), by rfl⟩
set_option maxRecDepth 100000 in
theorem mok_Land_hasCall : oMok k_Land_hasCall := ⟨by decide, oDecB_ok (by decide +kernel), by rfl⟩
set_option maxRecDepth 100000 in
theorem mok_Land_hasYear : oMok k_Land_hasYear := ⟨by decide, oDecB_ok (by decide +kernel), by rfl⟩
set_option maxRecDepth 100000 in
theorem mok_Land_putStone : oMok k_Land_putStone := ⟨by decide, oDecB_ok (by decide +kernel), by rfl⟩
set_option maxRecDepth 100000 in
theorem mok_Land_callsOfAll : oMok k_Land_callsOfAll := ⟨by decide, oDecB_ok (by decide +kernel), by rfl⟩
set_option maxRecDepth 100000 in
theorem mok_Land_drawNumber : oMok k_Land_drawNumber := ⟨by decide, oDecB_ok (by decide +kernel), by rfl⟩
set_option maxRecDepth 100000 in
theorem mok_Land_needleOf : oMok k_Land_needleOf := ⟨by decide, oDecB_ok (by decide +kernel), by rfl⟩
set_option maxRecDepth 100000 in
theorem mok_Land_chainOf : oMok k_Land_chainOf := ⟨by decide, oDecB_ok (by decide +kernel), by rfl⟩
set_option maxRecDepth 100000 in
theorem mok_Land_rankOf : oMok k_Land_rankOf := ⟨by decide, oDecB_ok (by decide +kernel), by rfl⟩
set_option maxRecDepth 100000 in
theorem mok_Laws_lastOf : oMok k_Laws_lastOf := ⟨by decide, oDecB_ok (by decide +kernel), by rfl⟩
set_option maxRecDepth 100000 in
theorem mok_Laws_workOut : oMok k_Laws_workOut := ⟨by decide, oDecB_ok (by decide +kernel), by rfl⟩
set_option maxRecDepth 100000 in
theorem mok_Laws_named : oMok k_Laws_named := ⟨by decide, oDecB_ok (by decide +kernel), by rfl⟩
set_option maxRecDepth 100000 in
theorem mok_Laws_joined : oMok k_Laws_joined := ⟨by decide, oDecB_ok (by decide +kernel), by rfl⟩
set_option maxRecDepth 100000 in
theorem mok_Reader_addFour : oMok k_Reader_addFour := ⟨by decide, oDecB_ok (by decide +kernel), by rfl⟩
set_option maxRecDepth 100000 in
theorem mok_Reader_parseTape : oMok k_Reader_parseTape := ⟨by decide, oDecB_ok (by decide +kernel), by rfl⟩
set_option maxRecDepth 100000 in
theorem mok_Reader_advance : oMok k_Reader_advance := ⟨by decide, oDecB_ok (by decide +kernel), by rfl⟩
set_option maxRecDepth 100000 in
theorem mok_Reader_sortOf : oMok k_Reader_sortOf := ⟨by decide, oDecB_ok (by decide +kernel), by rfl⟩
set_option maxRecDepth 100000 in
theorem mok_Reader_keyHere : oMok k_Reader_keyHere := ⟨by decide, oDecB_ok (by decide +kernel), by rfl⟩
set_option maxRecDepth 100000 in
theorem mok_Reader_isWord : oMok k_Reader_isWord := ⟨by decide, oDecB_ok (by decide +kernel), by rfl⟩
set_option maxRecDepth 100000 in
theorem mok_Reader_isSign : oMok k_Reader_isSign := ⟨by decide, oDecB_ok (by decide +kernel), by rfl⟩
set_option maxRecDepth 100000 in
theorem mok_Reader_isName : oMok k_Reader_isName := ⟨by decide, oDecB_ok (by decide +kernel), by rfl⟩
set_option maxRecDepth 100000 in
theorem mok_Reader_isJoin : oMok k_Reader_isJoin := ⟨by decide, oDecB_ok (by decide +kernel), by rfl⟩
set_option maxRecDepth 100000 in
theorem mok_Reader_parseLevel : oMok k_Reader_parseLevel := ⟨by decide, oDecB_ok (by decide +kernel), by rfl⟩
set_option maxRecDepth 100000 in
theorem mok_Reader_parsePiece : oMok k_Reader_parsePiece := ⟨by decide, oDecB_ok (by decide +kernel), by rfl⟩
set_option maxRecDepth 100000 in
theorem mok_Reader_parseAtom : oMok k_Reader_parseAtom := ⟨by decide, oDecB_ok (by decide +kernel), by rfl⟩
set_option maxRecDepth 100000 in
theorem mok_Reader_numberHere : oMok k_Reader_numberHere := ⟨by decide, oDecB_ok (by decide +kernel), by rfl⟩
set_option maxRecDepth 100000 in
theorem mok_Reader_addCode : oMok k_Reader_addCode := ⟨by decide, oDecB_ok (by decide +kernel), by rfl⟩
set_option maxRecDepth 100000 in
theorem mok_Row_become : oMok k_Row_become := ⟨by decide, oDecB_ok (by decide +kernel), by rfl⟩
set_option maxRecDepth 100000 in
theorem mok_Row_takeFrom : oMok k_Row_takeFrom := ⟨by decide, oDecB_ok (by decide +kernel), by rfl⟩
set_option maxRecDepth 100000 in
theorem mok_Row_hasPlace : oMok k_Row_hasPlace := ⟨by decide, oDecB_ok (by decide +kernel), by rfl⟩
set_option maxRecDepth 100000 in
theorem mok_Row_hasRun : oMok k_Row_hasRun := ⟨by decide, oDecB_ok (by decide +kernel), by rfl⟩
set_option maxRecDepth 100000 in
theorem mok_Slot_takeCall : oMok k_Slot_takeCall := ⟨by decide, oDecB_ok (by decide +kernel), by rfl⟩
