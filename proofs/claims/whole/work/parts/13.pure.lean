def f_Math_abs (a0 : Int32) : Int32 := if 0 ≤ a0 then a0 else -a0
theorem c_Math_abs (M : oM) (a0 : Int32) : oCt 0 k_Math_abs [.inl a0] M (fun r M' => r = some (f_Math_abs a0) ∧ M' = M) := by
  refine oCt.of (ls := [some (.inl a0)]) mok_Math_abs rfl rfl ?_
  refine oRun_ok 1 rfl ?_
  refine g_if_ge rfl (fun h1 => ?_) (fun h1 => ?_)
  ·
    refine oRun_ok 1 rfl ?_
    exact g_iret rfl rfl rfl ⟨by unfold f_Math_abs; rw [if_pos h1], rfl⟩
  ·
    refine oRun_ok 3 rfl ?_
    exact g_iret rfl rfl rfl ⟨by unfold f_Math_abs; rw [if_neg h1], rfl⟩
def f_Math_min (a0 a1 : Int32) : Int32 := if a1 < a0 then a1 else a0
theorem c_Math_min (M : oM) (a0 a1 : Int32) : oCt 0 k_Math_min [.inl a0, .inl a1] M (fun r M' => r = some (f_Math_min a0 a1) ∧ M' = M) := by
  refine oCt.of (ls := [some (.inl a0), some (.inl a1)]) mok_Math_min rfl rfl ?_
  refine oRun_ok 2 rfl ?_
  refine g_ic_gt rfl (fun h2 => ?_) (fun h2 => ?_)
  ·
    refine oRun_ok 1 rfl ?_
    exact g_iret rfl rfl rfl ⟨by unfold f_Math_min; rw [if_pos h2], rfl⟩
  ·
    refine oRun_ok 2 rfl ?_
    exact g_iret rfl rfl rfl ⟨by unfold f_Math_min; rw [if_neg h2], rfl⟩
def f_Math_max (a0 a1 : Int32) : Int32 := if a0 < a1 then a1 else a0
theorem c_Math_max (M : oM) (a0 a1 : Int32) : oCt 0 k_Math_max [.inl a0, .inl a1] M (fun r M' => r = some (f_Math_max a0 a1) ∧ M' = M) := by
  refine oCt.of (ls := [some (.inl a0), some (.inl a1)]) mok_Math_max rfl rfl ?_
  refine oRun_ok 2 rfl ?_
  refine g_ic_lt rfl (fun h2 => ?_) (fun h2 => ?_)
  ·
    refine oRun_ok 1 rfl ?_
    exact g_iret rfl rfl rfl ⟨by unfold f_Math_max; rw [if_pos h2], rfl⟩
  ·
    refine oRun_ok 2 rfl ?_
    exact g_iret rfl rfl rfl ⟨by unfold f_Math_max; rw [if_neg h2], rfl⟩
def f_Math_floorDiv (a0 a1 : Int32) : Int32 := if 0 ≤ (a0 ^^^ a1) then a0 / a1 else (if ((a0 / a1) * a1) = a0 then a0 / a1 else (a0 / a1) - 1)
theorem c_Math_floorDiv (M : oM) (a0 a1 : Int32) (H2 : ¬ a1 = 0) : oCt 0 k_Math_floorDiv [.inl a0, .inl a1] M (fun r M' => r = some (f_Math_floorDiv a0 a1) ∧ M' = M) := by
  refine oCt.of (ls := [some (.inl a0), some (.inl a1), none]) mok_Math_floorDiv rfl rfl ?_
  refine oRun_ok 2 rfl ?_
  refine g_idiv rfl H2 ?_
  refine oRun_ok 4 rfl ?_
  refine g_if_ge rfl (fun h7 => ?_) (fun h7 => ?_)
  ·
    refine oRun_ok 1 rfl ?_
    exact g_iret rfl rfl rfl ⟨by unfold f_Math_floorDiv; rw [if_pos h7], rfl⟩
  ·
    refine oRun_ok 4 rfl ?_
    refine g_ic_eq rfl (fun h14 => ?_) (fun h14 => ?_)
    ·
      refine oRun_ok 1 rfl ?_
      exact g_iret rfl rfl rfl ⟨by unfold f_Math_floorDiv; rw [if_neg h7, if_pos h14], rfl⟩
    ·
      refine oRun_ok 3 rfl ?_
      exact g_iret rfl rfl rfl ⟨by unfold f_Math_floorDiv; rw [if_neg h7, if_neg h14], rfl⟩
def f_Integer_bitCount (a0 : Int32) : Int32 := (((((((a0 - ((oUshr a0 1) &&& 1431655765)) &&& 858993459) + ((oUshr (a0 - ((oUshr a0 1) &&& 1431655765)) 2) &&& 858993459)) + (oUshr (((a0 - ((oUshr a0 1) &&& 1431655765)) &&& 858993459) + ((oUshr (a0 - ((oUshr a0 1) &&& 1431655765)) 2) &&& 858993459)) 4)) &&& 252645135) + (oUshr (((((a0 - ((oUshr a0 1) &&& 1431655765)) &&& 858993459) + ((oUshr (a0 - ((oUshr a0 1) &&& 1431655765)) 2) &&& 858993459)) + (oUshr (((a0 - ((oUshr a0 1) &&& 1431655765)) &&& 858993459) + ((oUshr (a0 - ((oUshr a0 1) &&& 1431655765)) 2) &&& 858993459)) 4)) &&& 252645135) 8)) + (oUshr ((((((a0 - ((oUshr a0 1) &&& 1431655765)) &&& 858993459) + ((oUshr (a0 - ((oUshr a0 1) &&& 1431655765)) 2) &&& 858993459)) + (oUshr (((a0 - ((oUshr a0 1) &&& 1431655765)) &&& 858993459) + ((oUshr (a0 - ((oUshr a0 1) &&& 1431655765)) 2) &&& 858993459)) 4)) &&& 252645135) + (oUshr (((((a0 - ((oUshr a0 1) &&& 1431655765)) &&& 858993459) + ((oUshr (a0 - ((oUshr a0 1) &&& 1431655765)) 2) &&& 858993459)) + (oUshr (((a0 - ((oUshr a0 1) &&& 1431655765)) &&& 858993459) + ((oUshr (a0 - ((oUshr a0 1) &&& 1431655765)) 2) &&& 858993459)) 4)) &&& 252645135) 8)) 16)) &&& 63
theorem c_Integer_bitCount (M : oM) (a0 : Int32) : oCt 0 k_Integer_bitCount [.inl a0] M (fun r M' => r = some (f_Integer_bitCount a0) ∧ M' = M) := by
  refine oCt.of (ls := [some (.inl a0)]) mok_Integer_bitCount rfl rfl ?_
  refine oRun_ok 41 rfl ?_
  exact g_iret rfl rfl rfl ⟨by unfold f_Integer_bitCount; rfl, rfl⟩
def f_Oak_isWithin (a0 a1 a2 : Int32) : Int32 := if a0 < a1 then 0 else (if a2 < a0 then 0 else 1)
theorem c_Oak_isWithin (M : oM) (a0 a1 a2 : Int32) : oCt 0 k_Oak_isWithin [.inl a0, .inl a1, .inl a2] M (fun r M' => r = some (f_Oak_isWithin a0 a1 a2) ∧ M' = M) := by
  refine oCt.of (ls := [some (.inl a0), some (.inl a1), some (.inl a2)]) mok_Oak_isWithin rfl rfl ?_
  refine oRun_ok 2 rfl ?_
  refine g_ic_lt rfl (fun h2 => ?_) (fun h2 => ?_)
  ·
    refine oRun_ok 1 rfl ?_
    exact g_iret rfl rfl rfl ⟨by unfold f_Oak_isWithin; rw [if_pos h2], rfl⟩
  ·
    refine oRun_ok 2 rfl ?_
    refine g_ic_gt rfl (fun h7 => ?_) (fun h7 => ?_)
    ·
      refine oRun_ok 1 rfl ?_
      exact g_iret rfl rfl rfl ⟨by unfold f_Oak_isWithin; rw [if_neg h2, if_pos h7], rfl⟩
    ·
      refine oRun_ok 2 rfl ?_
      exact g_iret rfl rfl rfl ⟨by unfold f_Oak_isWithin; rw [if_neg h2, if_neg h7], rfl⟩
theorem n_Oak_isWithin (a0 a1 a2 : Int32) : narrow .boolean (.int (f_Oak_isWithin a0 a1 a2)) = .int (f_Oak_isWithin a0 a1 a2) := by
  unfold f_Oak_isWithin
  first | rfl | (repeat' split) <;> first | rfl | apply n_Math_abs | apply n_Math_min | apply n_Math_max | apply n_Math_floorDiv | apply n_Integer_bitCount
def f_Oak_isStonePlace (a0 a1 : Int32) : Int32 := if (f_Oak_isWithin a0 ((-99)) 99) = 0 then 0 else (if (f_Oak_isWithin a1 ((-99)) 99) = 0 then 0 else 1)
theorem c_Oak_isStonePlace (M : oM) (a0 a1 : Int32) : oCt 1 k_Oak_isStonePlace [.inl a0, .inl a1] M (fun r M' => r = some (f_Oak_isStonePlace a0 a1) ∧ M' = M) := by
  refine oCt.of (ls := [some (.inl a0), some (.inl a1)]) mok_Oak_isStonePlace rfl rfl ?_
  refine oRun_ok 3 rfl ?_
  refine g_callS rfl rfl rfl rfl mok_Oak_isWithin (by decide) (c_Oak_isWithin M a0 ((-99)) 99) ?_
  rintro r5 M5 ⟨rfl, e5⟩; rw [e5]
  refine g_if_eq rfl (fun h8 => ?_) (fun h8 => ?_)
  ·
    refine oRun_ok 1 rfl ?_
    exact g_iret rfl rfl rfl ⟨by unfold f_Oak_isStonePlace; rw [if_pos h8], rfl⟩
  ·
    refine oRun_ok 3 rfl ?_
    refine g_callS rfl rfl rfl rfl mok_Oak_isWithin (by decide) (c_Oak_isWithin M a1 ((-99)) 99) ?_
    rintro r16 M16 ⟨rfl, e16⟩; rw [e16]
    refine g_if_eq rfl (fun h19 => ?_) (fun h19 => ?_)
    ·
      refine oRun_ok 1 rfl ?_
      exact g_iret rfl rfl rfl ⟨by unfold f_Oak_isStonePlace; rw [if_neg h8, if_pos h19], rfl⟩
    ·
      refine oRun_ok 2 rfl ?_
      exact g_iret rfl rfl rfl ⟨by unfold f_Oak_isStonePlace; rw [if_neg h8, if_neg h19], rfl⟩
theorem n_Oak_isStonePlace (a0 a1 : Int32) : narrow .boolean (.int (f_Oak_isStonePlace a0 a1)) = .int (f_Oak_isStonePlace a0 a1) := by
  unfold f_Oak_isStonePlace
  first | rfl | (repeat' split) <;> first | rfl | apply n_Math_abs | apply n_Math_min | apply n_Math_max | apply n_Math_floorDiv | apply n_Integer_bitCount | apply n_Oak_isWithin
def f_Oak_isCell (a0 : Int32) : Int32 := if a0 < 0 then 0 else (if 30 ≤ (a0 / 100) then 0 else (if 30 ≤ (oRem a0 100) then 0 else 1))
theorem c_Oak_isCell (M : oM) (a0 : Int32) : oCt 0 k_Oak_isCell [.inl a0] M (fun r M' => r = some (f_Oak_isCell a0) ∧ M' = M) := by
  refine oCt.of (ls := [some (.inl a0)]) mok_Oak_isCell rfl rfl ?_
  refine oRun_ok 1 rfl ?_
  refine g_if_lt rfl (fun h1 => ?_) (fun h1 => ?_)
  ·
    refine oRun_ok 1 rfl ?_
    exact g_iret rfl rfl rfl ⟨by unfold f_Oak_isCell; rw [if_pos h1], rfl⟩
  ·
    refine oRun_ok 4 rfl ?_
    refine g_ic_ge rfl (fun h10 => ?_) (fun h10 => ?_)
    ·
      refine oRun_ok 1 rfl ?_
      exact g_iret rfl rfl rfl ⟨by unfold f_Oak_isCell; rw [if_neg h1, if_pos h10], rfl⟩
    ·
      refine oRun_ok 4 rfl ?_
      refine g_ic_ge rfl (fun h19 => ?_) (fun h19 => ?_)
      ·
        refine oRun_ok 1 rfl ?_
        exact g_iret rfl rfl rfl ⟨by unfold f_Oak_isCell; rw [if_neg h1, if_neg h10, if_pos h19], rfl⟩
      ·
        refine oRun_ok 2 rfl ?_
        exact g_iret rfl rfl rfl ⟨by unfold f_Oak_isCell; rw [if_neg h1, if_neg h10, if_neg h19], rfl⟩
theorem n_Oak_isCell (a0 : Int32) : narrow .boolean (.int (f_Oak_isCell a0)) = .int (f_Oak_isCell a0) := by
  unfold f_Oak_isCell
  first | rfl | (repeat' split) <;> first | rfl | apply n_Math_abs | apply n_Math_min | apply n_Math_max | apply n_Math_floorDiv | apply n_Integer_bitCount | apply n_Oak_isWithin | apply n_Oak_isStonePlace
def f_Oak_isYear (a0 : Int32) : Int32 := f_Oak_isWithin a0 0 999
theorem c_Oak_isYear (M : oM) (a0 : Int32) : oCt 1 k_Oak_isYear [.inl a0] M (fun r M' => r = some (f_Oak_isYear a0) ∧ M' = M) := by
  refine oCt.of (ls := [some (.inl a0)]) mok_Oak_isYear rfl rfl ?_
  refine oRun_ok 3 rfl ?_
  refine g_callS rfl rfl rfl rfl mok_Oak_isWithin (by decide) (c_Oak_isWithin M a0 0 999) ?_
  rintro r5 M5 ⟨rfl, e5⟩; rw [e5]
  exact g_iret rfl rfl (n_Oak_isWithin a0 0 999) ⟨by unfold f_Oak_isYear; rfl, rfl⟩
theorem n_Oak_isYear (a0 : Int32) : narrow .boolean (.int (f_Oak_isYear a0)) = .int (f_Oak_isYear a0) := by
  unfold f_Oak_isYear
  first | rfl | (repeat' split) <;> first | rfl | apply n_Math_abs | apply n_Math_min | apply n_Math_max | apply n_Math_floorDiv | apply n_Integer_bitCount | apply n_Oak_isWithin | apply n_Oak_isStonePlace | apply n_Oak_isCell
def f_Oak_isSlack (a0 : Int32) : Int32 := f_Oak_isWithin a0 ((-9)) 9
theorem c_Oak_isSlack (M : oM) (a0 : Int32) : oCt 1 k_Oak_isSlack [.inl a0] M (fun r M' => r = some (f_Oak_isSlack a0) ∧ M' = M) := by
  refine oCt.of (ls := [some (.inl a0)]) mok_Oak_isSlack rfl rfl ?_
  refine oRun_ok 3 rfl ?_
  refine g_callS rfl rfl rfl rfl mok_Oak_isWithin (by decide) (c_Oak_isWithin M a0 ((-9)) 9) ?_
  rintro r5 M5 ⟨rfl, e5⟩; rw [e5]
  exact g_iret rfl rfl (n_Oak_isWithin a0 ((-9)) 9) ⟨by unfold f_Oak_isSlack; rfl, rfl⟩
theorem n_Oak_isSlack (a0 : Int32) : narrow .boolean (.int (f_Oak_isSlack a0)) = .int (f_Oak_isSlack a0) := by
  unfold f_Oak_isSlack
  first | rfl | (repeat' split) <;> first | rfl | apply n_Math_abs | apply n_Math_min | apply n_Math_max | apply n_Math_floorDiv | apply n_Integer_bitCount | apply n_Oak_isWithin | apply n_Oak_isStonePlace | apply n_Oak_isCell | apply n_Oak_isYear
def f_Oak_isKind (a0 : Int32) : Int32 := f_Oak_isWithin a0 0 5
theorem c_Oak_isKind (M : oM) (a0 : Int32) : oCt 1 k_Oak_isKind [.inl a0] M (fun r M' => r = some (f_Oak_isKind a0) ∧ M' = M) := by
  refine oCt.of (ls := [some (.inl a0)]) mok_Oak_isKind rfl rfl ?_
  refine oRun_ok 3 rfl ?_
  refine g_callS rfl rfl rfl rfl mok_Oak_isWithin (by decide) (c_Oak_isWithin M a0 0 5) ?_
  rintro r3 M3 ⟨rfl, e3⟩; rw [e3]
  exact g_iret rfl rfl (n_Oak_isWithin a0 0 5) ⟨by unfold f_Oak_isKind; rfl, rfl⟩
theorem n_Oak_isKind (a0 : Int32) : narrow .boolean (.int (f_Oak_isKind a0)) = .int (f_Oak_isKind a0) := by
  unfold f_Oak_isKind
  first | rfl | (repeat' split) <;> first | rfl | apply n_Math_abs | apply n_Math_min | apply n_Math_max | apply n_Math_floorDiv | apply n_Integer_bitCount | apply n_Oak_isWithin | apply n_Oak_isStonePlace | apply n_Oak_isCell | apply n_Oak_isYear | apply n_Oak_isSlack
def f_Oak_isRun (a0 : Int32) : Int32 := if a0 < 0 then 0 else (if 8 ≤ (a0 / 100) then 0 else (if (f_Oak_isWithin (oRem a0 100) 1 20) = 0 then 0 else 1))
theorem c_Oak_isRun (M : oM) (a0 : Int32) : oCt 1 k_Oak_isRun [.inl a0] M (fun r M' => r = some (f_Oak_isRun a0) ∧ M' = M) := by
  refine oCt.of (ls := [some (.inl a0)]) mok_Oak_isRun rfl rfl ?_
  refine oRun_ok 1 rfl ?_
  refine g_if_lt rfl (fun h1 => ?_) (fun h1 => ?_)
  ·
    refine oRun_ok 1 rfl ?_
    exact g_iret rfl rfl rfl ⟨by unfold f_Oak_isRun; rw [if_pos h1], rfl⟩
  ·
    refine oRun_ok 4 rfl ?_
    refine g_ic_ge rfl (fun h10 => ?_) (fun h10 => ?_)
    ·
      refine oRun_ok 1 rfl ?_
      exact g_iret rfl rfl rfl ⟨by unfold f_Oak_isRun; rw [if_neg h1, if_pos h10], rfl⟩
    ·
      refine oRun_ok 5 rfl ?_
      refine g_callS rfl rfl rfl rfl mok_Oak_isWithin (by decide) (c_Oak_isWithin M (oRem a0 100) 1 20) ?_
      rintro r20 M20 ⟨rfl, e20⟩; rw [e20]
      refine g_if_eq rfl (fun h23 => ?_) (fun h23 => ?_)
      ·
        refine oRun_ok 1 rfl ?_
        exact g_iret rfl rfl rfl ⟨by unfold f_Oak_isRun; rw [if_neg h1, if_neg h10, if_pos h23], rfl⟩
      ·
        refine oRun_ok 2 rfl ?_
        exact g_iret rfl rfl rfl ⟨by unfold f_Oak_isRun; rw [if_neg h1, if_neg h10, if_neg h23], rfl⟩
theorem n_Oak_isRun (a0 : Int32) : narrow .boolean (.int (f_Oak_isRun a0)) = .int (f_Oak_isRun a0) := by
  unfold f_Oak_isRun
  first | rfl | (repeat' split) <;> first | rfl | apply n_Math_abs | apply n_Math_min | apply n_Math_max | apply n_Math_floorDiv | apply n_Integer_bitCount | apply n_Oak_isWithin | apply n_Oak_isStonePlace | apply n_Oak_isCell | apply n_Oak_isYear | apply n_Oak_isSlack | apply n_Oak_isKind
def f_Oak_isSheet (a0 : Int32) : Int32 := f_Oak_isWithin a0 0 3
theorem c_Oak_isSheet (M : oM) (a0 : Int32) : oCt 1 k_Oak_isSheet [.inl a0] M (fun r M' => r = some (f_Oak_isSheet a0) ∧ M' = M) := by
  refine oCt.of (ls := [some (.inl a0)]) mok_Oak_isSheet rfl rfl ?_
  refine oRun_ok 3 rfl ?_
  refine g_callS rfl rfl rfl rfl mok_Oak_isWithin (by decide) (c_Oak_isWithin M a0 0 3) ?_
  rintro r3 M3 ⟨rfl, e3⟩; rw [e3]
  exact g_iret rfl rfl (n_Oak_isWithin a0 0 3) ⟨by unfold f_Oak_isSheet; rfl, rfl⟩
theorem n_Oak_isSheet (a0 : Int32) : narrow .boolean (.int (f_Oak_isSheet a0)) = .int (f_Oak_isSheet a0) := by
  unfold f_Oak_isSheet
  first | rfl | (repeat' split) <;> first | rfl | apply n_Math_abs | apply n_Math_min | apply n_Math_max | apply n_Math_floorDiv | apply n_Integer_bitCount | apply n_Oak_isWithin | apply n_Oak_isStonePlace | apply n_Oak_isCell | apply n_Oak_isYear | apply n_Oak_isSlack | apply n_Oak_isKind | apply n_Oak_isRun
def f_Oak_isSlot (a0 : Int32) : Int32 := f_Oak_isWithin a0 0 4
theorem c_Oak_isSlot (M : oM) (a0 : Int32) : oCt 1 k_Oak_isSlot [.inl a0] M (fun r M' => r = some (f_Oak_isSlot a0) ∧ M' = M) := by
  refine oCt.of (ls := [some (.inl a0)]) mok_Oak_isSlot rfl rfl ?_
  refine oRun_ok 3 rfl ?_
  refine g_callS rfl rfl rfl rfl mok_Oak_isWithin (by decide) (c_Oak_isWithin M a0 0 4) ?_
  rintro r3 M3 ⟨rfl, e3⟩; rw [e3]
  exact g_iret rfl rfl (n_Oak_isWithin a0 0 4) ⟨by unfold f_Oak_isSlot; rfl, rfl⟩
theorem n_Oak_isSlot (a0 : Int32) : narrow .boolean (.int (f_Oak_isSlot a0)) = .int (f_Oak_isSlot a0) := by
  unfold f_Oak_isSlot
  first | rfl | (repeat' split) <;> first | rfl | apply n_Math_abs | apply n_Math_min | apply n_Math_max | apply n_Math_floorDiv | apply n_Integer_bitCount | apply n_Oak_isWithin | apply n_Oak_isStonePlace | apply n_Oak_isCell | apply n_Oak_isYear | apply n_Oak_isSlack | apply n_Oak_isKind | apply n_Oak_isRun | apply n_Oak_isSheet
def f_Oak_worthOf (a0 a1 a2 : Int32) : Int32 := if a0 = 1 then a2 + a1 else (if a0 = 2 then 50 else (if a0 = 3 then 2 * (a2 + a1) else (if a0 = 4 then 50 + a2 else (if a0 = 5 then -a2 else a2))))
theorem c_Oak_worthOf (M : oM) (a0 a1 a2 : Int32) : oCt 0 k_Oak_worthOf [.inl a0, .inl a1, .inl a2] M (fun r M' => r = some (f_Oak_worthOf a0 a1 a2) ∧ M' = M) := by
  refine oCt.of (ls := [some (.inl a0), some (.inl a1), some (.inl a2)]) mok_Oak_worthOf rfl rfl ?_
  refine oRun_ok 1 rfl ?_
  refine g_tsw [(1, 36), (2, 46), (3, 40), (4, 49), (5, 54)] 57 rfl (by decide +kernel) rfl ⟨fun h1 => ?_, fun h1 => ?_, fun h1 => ?_, fun h1 => ?_, fun h1 => ?_, trivial⟩ (fun h1 => ?_)
  ·
    refine oRun_ok 3 rfl ?_
    exact g_iret rfl rfl rfl ⟨by unfold f_Oak_worthOf; rw [if_pos h1], rfl⟩
  ·
    have n1_0 : ¬ a0 = 1 := by rw [h1]; decide
    refine oRun_ok 1 rfl ?_
    exact g_iret rfl rfl rfl ⟨by unfold f_Oak_worthOf; rw [if_neg n1_0, if_pos h1], rfl⟩
  ·
    have n1_0 : ¬ a0 = 1 := by rw [h1]; decide
    have n1_1 : ¬ a0 = 2 := by rw [h1]; decide
    refine oRun_ok 5 rfl ?_
    exact g_iret rfl rfl rfl ⟨by unfold f_Oak_worthOf; rw [if_neg n1_0, if_neg n1_1, if_pos h1], rfl⟩
  ·
    have n1_0 : ¬ a0 = 1 := by rw [h1]; decide
    have n1_1 : ¬ a0 = 2 := by rw [h1]; decide
    have n1_2 : ¬ a0 = 3 := by rw [h1]; decide
    refine oRun_ok 3 rfl ?_
    exact g_iret rfl rfl rfl ⟨by unfold f_Oak_worthOf; rw [if_neg n1_0, if_neg n1_1, if_neg n1_2, if_pos h1], rfl⟩
  ·
    have n1_0 : ¬ a0 = 1 := by rw [h1]; decide
    have n1_1 : ¬ a0 = 2 := by rw [h1]; decide
    have n1_2 : ¬ a0 = 3 := by rw [h1]; decide
    have n1_3 : ¬ a0 = 4 := by rw [h1]; decide
    refine oRun_ok 2 rfl ?_
    exact g_iret rfl rfl rfl ⟨by unfold f_Oak_worthOf; rw [if_neg n1_0, if_neg n1_1, if_neg n1_2, if_neg n1_3, if_pos h1], rfl⟩
  ·
    have n1_0 : ¬ a0 = 1 := h1 (1, 36) (by decide)
    have n1_1 : ¬ a0 = 2 := h1 (2, 46) (by decide)
    have n1_2 : ¬ a0 = 3 := h1 (3, 40) (by decide)
    have n1_3 : ¬ a0 = 4 := h1 (4, 49) (by decide)
    have n1_4 : ¬ a0 = 5 := h1 (5, 54) (by decide)
    refine oRun_ok 1 rfl ?_
    exact g_iret rfl rfl rfl ⟨by unfold f_Oak_worthOf; rw [if_neg n1_0, if_neg n1_1, if_neg n1_2, if_neg n1_3, if_neg n1_4], rfl⟩
def f_Oak_trueOf (a0 a1 : Int32) : Int32 := (a0 * (100 + a1)) / 100
theorem c_Oak_trueOf (M : oM) (a0 a1 : Int32) : oCt 0 k_Oak_trueOf [.inl a0, .inl a1] M (fun r M' => r = some (f_Oak_trueOf a0 a1) ∧ M' = M) := by
  refine oCt.of (ls := [some (.inl a0), some (.inl a1)]) mok_Oak_trueOf rfl rfl ?_
  refine oRun_ok 7 rfl ?_
  exact g_iret rfl rfl rfl ⟨by unfold f_Oak_trueOf; rfl, rfl⟩
def f_Oak_farApart (a0 a1 a2 a3 : Int32) : Int32 := (f_Math_abs (a0 - a2)) + (f_Math_abs (a1 - a3))
theorem c_Oak_farApart (M : oM) (a0 a1 a2 a3 : Int32) : oCt 1 k_Oak_farApart [.inl a0, .inl a1, .inl a2, .inl a3] M (fun r M' => r = some (f_Oak_farApart a0 a1 a2 a3) ∧ M' = M) := by
  refine oCt.of (ls := [some (.inl a0), some (.inl a1), some (.inl a2), some (.inl a3)]) mok_Oak_farApart rfl rfl ?_
  refine oRun_ok 3 rfl ?_
  refine g_callS rfl rfl rfl rfl mok_Math_abs (by decide) (c_Math_abs M (a0 - a2)) ?_
  rintro r3 M3 ⟨rfl, e3⟩; rw [e3]
  refine oRun_ok 3 rfl ?_
  refine g_callS rfl rfl rfl rfl mok_Math_abs (by decide) (c_Math_abs M (a1 - a3)) ?_
  rintro r9 M9 ⟨rfl, e9⟩; rw [e9]
  refine oRun_ok 1 rfl ?_
  exact g_iret rfl rfl rfl ⟨by unfold f_Oak_farApart; rfl, rfl⟩
def f_Oak_isLetter (a0 : Int32) : Int32 := if a0 < 97 then 0 else (if 122 < a0 then 0 else 1)
theorem c_Oak_isLetter (M : oM) (a0 : Int32) : oCt 0 k_Oak_isLetter [.inl a0] M (fun r M' => r = some (f_Oak_isLetter a0) ∧ M' = M) := by
  refine oCt.of (ls := [some (.inl a0)]) mok_Oak_isLetter rfl rfl ?_
  refine oRun_ok 2 rfl ?_
  refine g_ic_lt rfl (fun h3 => ?_) (fun h3 => ?_)
  ·
    refine oRun_ok 1 rfl ?_
    exact g_iret rfl rfl rfl ⟨by unfold f_Oak_isLetter; rw [if_pos h3], rfl⟩
  ·
    refine oRun_ok 2 rfl ?_
    refine g_ic_gt rfl (fun h9 => ?_) (fun h9 => ?_)
    ·
      refine oRun_ok 1 rfl ?_
      exact g_iret rfl rfl rfl ⟨by unfold f_Oak_isLetter; rw [if_neg h3, if_pos h9], rfl⟩
    ·
      refine oRun_ok 2 rfl ?_
      exact g_iret rfl rfl rfl ⟨by unfold f_Oak_isLetter; rw [if_neg h3, if_neg h9], rfl⟩
theorem n_Oak_isLetter (a0 : Int32) : narrow .boolean (.int (f_Oak_isLetter a0)) = .int (f_Oak_isLetter a0) := by
  unfold f_Oak_isLetter
  first | rfl | (repeat' split) <;> first | rfl | apply n_Math_abs | apply n_Math_min | apply n_Math_max | apply n_Math_floorDiv | apply n_Integer_bitCount | apply n_Oak_isWithin | apply n_Oak_isStonePlace | apply n_Oak_isCell | apply n_Oak_isYear | apply n_Oak_isSlack | apply n_Oak_isKind | apply n_Oak_isRun | apply n_Oak_isSheet | apply n_Oak_isSlot | apply n_Oak_worthOf | apply n_Oak_trueOf | apply n_Oak_farApart
def f_Laws_joined (a0 a1 a2 : Int32) : Int32 := if a0 = 38 then (if a1 = 0 then 0 else (if a2 = 0 then 0 else 1)) else (if a0 = 42 then a1 * a2 else (if a0 = 43 then a1 + a2 else (if a0 = 45 then a1 - a2 else (if a0 = 60 then (if a2 ≤ a1 then 0 else 1) else (if a0 = 61 then (if a1 = a2 then 1 else 0) else (if a0 = 62 then (if a1 ≤ a2 then 0 else 1) else (if a0 = 124 then (if a1 = 0 then (if a2 = 0 then 0 else 1) else 1) else (if a2 = 0 then 0 else a1 / a2))))))))
theorem c_Laws_joined (M : oM) (a0 a1 a2 : Int32) : oCt 0 k_Laws_joined [.inl a0, .inl a1, .inl a2] M (fun r M' => r = some (f_Laws_joined a0 a1 a2) ∧ M' = M) := by
  refine oCt.of (ls := [some (.inl a0), some (.inl a1), some (.inl a2)]) mok_Laws_joined rfl rfl ?_
  refine oRun_ok 1 rfl ?_
  refine g_lsw [(38, 90), (42, 145), (43, 137), (45, 141), (60, 104), (61, 115), (62, 126), (124, 76)] 149 rfl (by decide +kernel) (by decide +kernel) rfl ⟨fun h1 => ?_, fun h1 => ?_, fun h1 => ?_, fun h1 => ?_, fun h1 => ?_, fun h1 => ?_, fun h1 => ?_, fun h1 => ?_, trivial⟩ (fun h1 => ?_)
  ·
    refine oRun_ok 1 rfl ?_
    refine g_if_eq rfl (fun h91 => ?_) (fun h91 => ?_)
    ·
      refine oRun_ok 1 rfl ?_
      exact g_iret rfl rfl rfl ⟨by unfold f_Laws_joined; rw [if_pos h1, if_pos h91], rfl⟩
    ·
      refine oRun_ok 1 rfl ?_
      refine g_if_eq rfl (fun h95 => ?_) (fun h95 => ?_)
      ·
        refine oRun_ok 1 rfl ?_
        exact g_iret rfl rfl rfl ⟨by unfold f_Laws_joined; rw [if_pos h1, if_neg h91, if_pos h95], rfl⟩
      ·
        refine oRun_ok 2 rfl ?_
        exact g_iret rfl rfl rfl ⟨by unfold f_Laws_joined; rw [if_pos h1, if_neg h91, if_neg h95], rfl⟩
  ·
    have n1_0 : ¬ a0 = 38 := by rw [h1]; decide
    refine oRun_ok 3 rfl ?_
    exact g_iret rfl rfl rfl ⟨by unfold f_Laws_joined; rw [if_neg n1_0, if_pos h1], rfl⟩
  ·
    have n1_0 : ¬ a0 = 38 := by rw [h1]; decide
    have n1_1 : ¬ a0 = 42 := by rw [h1]; decide
    refine oRun_ok 3 rfl ?_
    exact g_iret rfl rfl rfl ⟨by unfold f_Laws_joined; rw [if_neg n1_0, if_neg n1_1, if_pos h1], rfl⟩
  ·
    have n1_0 : ¬ a0 = 38 := by rw [h1]; decide
    have n1_1 : ¬ a0 = 42 := by rw [h1]; decide
    have n1_2 : ¬ a0 = 43 := by rw [h1]; decide
    refine oRun_ok 3 rfl ?_
    exact g_iret rfl rfl rfl ⟨by unfold f_Laws_joined; rw [if_neg n1_0, if_neg n1_1, if_neg n1_2, if_pos h1], rfl⟩
  ·
    have n1_0 : ¬ a0 = 38 := by rw [h1]; decide
    have n1_1 : ¬ a0 = 42 := by rw [h1]; decide
    have n1_2 : ¬ a0 = 43 := by rw [h1]; decide
    have n1_3 : ¬ a0 = 45 := by rw [h1]; decide
    refine oRun_ok 2 rfl ?_
    refine g_ic_ge rfl (fun h106 => ?_) (fun h106 => ?_)
    ·
      refine oRun_ok 1 rfl ?_
      exact g_iret rfl rfl rfl ⟨by unfold f_Laws_joined; rw [if_neg n1_0, if_neg n1_1, if_neg n1_2, if_neg n1_3, if_pos h1, if_pos h106], rfl⟩
    ·
      refine oRun_ok 2 rfl ?_
      exact g_iret rfl rfl rfl ⟨by unfold f_Laws_joined; rw [if_neg n1_0, if_neg n1_1, if_neg n1_2, if_neg n1_3, if_pos h1, if_neg h106], rfl⟩
  ·
    have n1_0 : ¬ a0 = 38 := by rw [h1]; decide
    have n1_1 : ¬ a0 = 42 := by rw [h1]; decide
    have n1_2 : ¬ a0 = 43 := by rw [h1]; decide
    have n1_3 : ¬ a0 = 45 := by rw [h1]; decide
    have n1_4 : ¬ a0 = 60 := by rw [h1]; decide
    refine oRun_ok 2 rfl ?_
    refine g_ic_ne rfl (fun h117 => ?_) (fun h117 => ?_)
    ·
      refine oRun_ok 1 rfl ?_
      exact g_iret rfl rfl rfl ⟨by unfold f_Laws_joined; rw [if_neg n1_0, if_neg n1_1, if_neg n1_2, if_neg n1_3, if_neg n1_4, if_pos h1, if_neg h117], rfl⟩
    ·
      refine oRun_ok 2 rfl ?_
      exact g_iret rfl rfl rfl ⟨by unfold f_Laws_joined; rw [if_neg n1_0, if_neg n1_1, if_neg n1_2, if_neg n1_3, if_neg n1_4, if_pos h1, if_pos h117], rfl⟩
  ·
    have n1_0 : ¬ a0 = 38 := by rw [h1]; decide
    have n1_1 : ¬ a0 = 42 := by rw [h1]; decide
    have n1_2 : ¬ a0 = 43 := by rw [h1]; decide
    have n1_3 : ¬ a0 = 45 := by rw [h1]; decide
    have n1_4 : ¬ a0 = 60 := by rw [h1]; decide
    have n1_5 : ¬ a0 = 61 := by rw [h1]; decide
    refine oRun_ok 2 rfl ?_
    refine g_ic_le rfl (fun h128 => ?_) (fun h128 => ?_)
    ·
      refine oRun_ok 1 rfl ?_
      exact g_iret rfl rfl rfl ⟨by unfold f_Laws_joined; rw [if_neg n1_0, if_neg n1_1, if_neg n1_2, if_neg n1_3, if_neg n1_4, if_neg n1_5, if_pos h1, if_pos h128], rfl⟩
    ·
      refine oRun_ok 2 rfl ?_
      exact g_iret rfl rfl rfl ⟨by unfold f_Laws_joined; rw [if_neg n1_0, if_neg n1_1, if_neg n1_2, if_neg n1_3, if_neg n1_4, if_neg n1_5, if_pos h1, if_neg h128], rfl⟩
  ·
    have n1_0 : ¬ a0 = 38 := by rw [h1]; decide
    have n1_1 : ¬ a0 = 42 := by rw [h1]; decide
    have n1_2 : ¬ a0 = 43 := by rw [h1]; decide
    have n1_3 : ¬ a0 = 45 := by rw [h1]; decide
    have n1_4 : ¬ a0 = 60 := by rw [h1]; decide
    have n1_5 : ¬ a0 = 61 := by rw [h1]; decide
    have n1_6 : ¬ a0 = 62 := by rw [h1]; decide
    refine oRun_ok 1 rfl ?_
    refine g_if_ne rfl (fun h77 => ?_) (fun h77 => ?_)
    ·
      refine oRun_ok 2 rfl ?_
      exact g_iret rfl rfl rfl ⟨by unfold f_Laws_joined; rw [if_neg n1_0, if_neg n1_1, if_neg n1_2, if_neg n1_3, if_neg n1_4, if_neg n1_5, if_neg n1_6, if_pos h1, if_neg h77], rfl⟩
    ·
      refine oRun_ok 1 rfl ?_
      refine g_if_eq rfl (fun h81 => ?_) (fun h81 => ?_)
      ·
        refine oRun_ok 1 rfl ?_
        exact g_iret rfl rfl rfl ⟨by unfold f_Laws_joined; rw [if_neg n1_0, if_neg n1_1, if_neg n1_2, if_neg n1_3, if_neg n1_4, if_neg n1_5, if_neg n1_6, if_pos h1, if_pos h77, if_pos h81], rfl⟩
      ·
        refine oRun_ok 2 rfl ?_
        exact g_iret rfl rfl rfl ⟨by unfold f_Laws_joined; rw [if_neg n1_0, if_neg n1_1, if_neg n1_2, if_neg n1_3, if_neg n1_4, if_neg n1_5, if_neg n1_6, if_pos h1, if_pos h77, if_neg h81], rfl⟩
  ·
    have n1_0 : ¬ a0 = 38 := h1 (38, 90) (by decide)
    have n1_1 : ¬ a0 = 42 := h1 (42, 145) (by decide)
    have n1_2 : ¬ a0 = 43 := h1 (43, 137) (by decide)
    have n1_3 : ¬ a0 = 45 := h1 (45, 141) (by decide)
    have n1_4 : ¬ a0 = 60 := h1 (60, 104) (by decide)
    have n1_5 : ¬ a0 = 61 := h1 (61, 115) (by decide)
    have n1_6 : ¬ a0 = 62 := h1 (62, 126) (by decide)
    have n1_7 : ¬ a0 = 124 := h1 (124, 76) (by decide)
    refine oRun_ok 1 rfl ?_
    refine g_if_ne rfl (fun h150 => ?_) (fun h150 => ?_)
    ·
      refine oRun_ok 2 rfl ?_
      refine g_idiv rfl h150 ?_
      exact g_iret rfl rfl rfl ⟨by unfold f_Laws_joined; rw [if_neg n1_0, if_neg n1_1, if_neg n1_2, if_neg n1_3, if_neg n1_4, if_neg n1_5, if_neg n1_6, if_neg n1_7, if_neg h150], rfl⟩
    ·
      refine oRun_ok 2 rfl ?_
      exact g_iret rfl rfl rfl ⟨by unfold f_Laws_joined; rw [if_neg n1_0, if_neg n1_1, if_neg n1_2, if_neg n1_3, if_neg n1_4, if_neg n1_5, if_neg n1_6, if_neg n1_7, if_pos h150], rfl⟩
def f_Reader_sortOf (a0 : Int32) : Int32 := if (f_Oak_isLetter a0) = 0 then (if a0 < 48 then 3 else (if 57 < a0 then 3 else 2)) else 1
theorem c_Reader_sortOf (M : oM) (a0 : Int32) : oCt 1 k_Reader_sortOf [.inl a0] M (fun r M' => r = some (f_Reader_sortOf a0) ∧ M' = M) := by
  refine oCt.of (ls := [some (.inl a0)]) mok_Reader_sortOf rfl rfl ?_
  refine oRun_ok 1 rfl ?_
  refine g_callSN rfl rfl rfl rfl mok_Oak_isLetter (by decide) (c_Oak_isLetter M a0) ?_
  rintro r1 M1 ⟨rfl, e1⟩; rw [e1]
  refine g_if_eq rfl (fun h4 => ?_) (fun h4 => ?_)
  ·
    refine oRun_ok 2 rfl ?_
    refine g_ic_lt rfl (fun h12 => ?_) (fun h12 => ?_)
    ·
      refine oRun_ok 1 rfl ?_
      exact g_iret rfl rfl rfl ⟨by unfold f_Reader_sortOf; rw [if_pos h4, if_pos h12], rfl⟩
    ·
      refine oRun_ok 2 rfl ?_
      refine g_ic_gt rfl (fun h18 => ?_) (fun h18 => ?_)
      ·
        refine oRun_ok 1 rfl ?_
        exact g_iret rfl rfl rfl ⟨by unfold f_Reader_sortOf; rw [if_pos h4, if_neg h12, if_pos h18], rfl⟩
      ·
        refine oRun_ok 2 rfl ?_
        exact g_iret rfl rfl rfl ⟨by unfold f_Reader_sortOf; rw [if_pos h4, if_neg h12, if_neg h18], rfl⟩
  ·
    refine oRun_ok 1 rfl ?_
    exact g_iret rfl rfl rfl ⟨by unfold f_Reader_sortOf; rw [if_neg h4], rfl⟩
def f_Mod_in (a0 a1 a2 : Int32) : Int32 := if a0 < a1 then 0 else (if a2 < a0 then 0 else 1)
theorem c_Mod_in (M : oM) (a0 a1 a2 : Int32) : oCt 0 k_Mod_in [.inl a0, .inl a1, .inl a2] M (fun r M' => r = some (f_Mod_in a0 a1 a2) ∧ M' = M) := by
  refine oCt.of (ls := [some (.inl a0), some (.inl a1), some (.inl a2)]) mok_Mod_in rfl rfl ?_
  refine oRun_ok 2 rfl ?_
  refine g_ic_lt rfl (fun h2 => ?_) (fun h2 => ?_)
  ·
    refine oRun_ok 1 rfl ?_
    exact g_iret rfl rfl rfl ⟨by unfold f_Mod_in; rw [if_pos h2], rfl⟩
  ·
    refine oRun_ok 2 rfl ?_
    refine g_ic_gt rfl (fun h7 => ?_) (fun h7 => ?_)
    ·
      refine oRun_ok 1 rfl ?_
      exact g_iret rfl rfl rfl ⟨by unfold f_Mod_in; rw [if_neg h2, if_pos h7], rfl⟩
    ·
      refine oRun_ok 2 rfl ?_
      exact g_iret rfl rfl rfl ⟨by unfold f_Mod_in; rw [if_neg h2, if_neg h7], rfl⟩
theorem n_Mod_in (a0 a1 a2 : Int32) : narrow .boolean (.int (f_Mod_in a0 a1 a2)) = .int (f_Mod_in a0 a1 a2) := by
  unfold f_Mod_in
  first | rfl | (repeat' split) <;> first | rfl | apply n_Math_abs | apply n_Math_min | apply n_Math_max | apply n_Math_floorDiv | apply n_Integer_bitCount | apply n_Oak_isWithin | apply n_Oak_isStonePlace | apply n_Oak_isCell | apply n_Oak_isYear | apply n_Oak_isSlack | apply n_Oak_isKind | apply n_Oak_isRun | apply n_Oak_isSheet | apply n_Oak_isSlot | apply n_Oak_worthOf | apply n_Oak_trueOf | apply n_Oak_farApart | apply n_Oak_isLetter | apply n_Laws_joined | apply n_Reader_sortOf
def f_Mod_within (a0 a1 a2 : Int32) : Int32 := if a1 ≤ a0 then (if a0 ≤ a2 then a0 else a2) else a1
theorem c_Mod_within (M : oM) (a0 a1 a2 : Int32) : oCt 0 k_Mod_within [.inl a0, .inl a1, .inl a2] M (fun r M' => r = some (f_Mod_within a0 a1 a2) ∧ M' = M) := by
  refine oCt.of (ls := [some (.inl a0), some (.inl a1), some (.inl a2)]) mok_Mod_within rfl rfl ?_
  refine oRun_ok 2 rfl ?_
  refine g_ic_ge rfl (fun h2 => ?_) (fun h2 => ?_)
  ·
    refine oRun_ok 2 rfl ?_
    refine g_ic_le rfl (fun h11 => ?_) (fun h11 => ?_)
    ·
      refine oRun_ok 1 rfl ?_
      exact g_iret rfl rfl rfl ⟨by unfold f_Mod_within; rw [if_pos h2, if_pos h11], rfl⟩
    ·
      refine oRun_ok 2 rfl ?_
      exact g_iret rfl rfl rfl ⟨by unfold f_Mod_within; rw [if_pos h2, if_neg h11], rfl⟩
  ·
    refine oRun_ok 2 rfl ?_
    exact g_iret rfl rfl rfl ⟨by unfold f_Mod_within; rw [if_neg h2], rfl⟩
def f_Mod_size (a0 : Int32) : Int32 := if 0 ≤ a0 then a0 else -a0
theorem c_Mod_size (M : oM) (a0 : Int32) : oCt 0 k_Mod_size [.inl a0] M (fun r M' => r = some (f_Mod_size a0) ∧ M' = M) := by
  refine oCt.of (ls := [some (.inl a0)]) mok_Mod_size rfl rfl ?_
  refine oRun_ok 1 rfl ?_
  refine g_if_ge rfl (fun h1 => ?_) (fun h1 => ?_)
  ·
    refine oRun_ok 1 rfl ?_
    exact g_iret rfl rfl rfl ⟨by unfold f_Mod_size; rw [if_pos h1], rfl⟩
  ·
    refine oRun_ok 3 rfl ?_
    exact g_iret rfl rfl rfl ⟨by unfold f_Mod_size; rw [if_neg h1], rfl⟩
def f_Mod_isSpot (a0 a1 : Int32) : Int32 := if (f_Mod_in a0 ((-99)) 99) = 0 then 0 else (if (f_Mod_in a1 ((-99)) 99) = 0 then 0 else 1)
theorem c_Mod_isSpot (M : oM) (a0 a1 : Int32) : oCt 1 k_Mod_isSpot [.inl a0, .inl a1] M (fun r M' => r = some (f_Mod_isSpot a0 a1) ∧ M' = M) := by
  refine oCt.of (ls := [some (.inl a0), some (.inl a1)]) mok_Mod_isSpot rfl rfl ?_
  refine oRun_ok 3 rfl ?_
  refine g_callS rfl rfl rfl rfl mok_Mod_in (by decide) (c_Mod_in M a0 ((-99)) 99) ?_
  rintro r5 M5 ⟨rfl, e5⟩; rw [e5]
  refine g_if_eq rfl (fun h8 => ?_) (fun h8 => ?_)
  ·
    refine oRun_ok 1 rfl ?_
    exact g_iret rfl rfl rfl ⟨by unfold f_Mod_isSpot; rw [if_pos h8], rfl⟩
  ·
    refine oRun_ok 3 rfl ?_
    refine g_callS rfl rfl rfl rfl mok_Mod_in (by decide) (c_Mod_in M a1 ((-99)) 99) ?_
    rintro r16 M16 ⟨rfl, e16⟩; rw [e16]
    refine g_if_eq rfl (fun h19 => ?_) (fun h19 => ?_)
    ·
      refine oRun_ok 1 rfl ?_
      exact g_iret rfl rfl rfl ⟨by unfold f_Mod_isSpot; rw [if_neg h8, if_pos h19], rfl⟩
    ·
      refine oRun_ok 2 rfl ?_
      exact g_iret rfl rfl rfl ⟨by unfold f_Mod_isSpot; rw [if_neg h8, if_neg h19], rfl⟩
theorem n_Mod_isSpot (a0 a1 : Int32) : narrow .boolean (.int (f_Mod_isSpot a0 a1)) = .int (f_Mod_isSpot a0 a1) := by
  unfold f_Mod_isSpot
  first | rfl | (repeat' split) <;> first | rfl | apply n_Math_abs | apply n_Math_min | apply n_Math_max | apply n_Math_floorDiv | apply n_Integer_bitCount | apply n_Oak_isWithin | apply n_Oak_isStonePlace | apply n_Oak_isCell | apply n_Oak_isYear | apply n_Oak_isSlack | apply n_Oak_isKind | apply n_Oak_isRun | apply n_Oak_isSheet | apply n_Oak_isSlot | apply n_Oak_worthOf | apply n_Oak_trueOf | apply n_Oak_farApart | apply n_Oak_isLetter | apply n_Laws_joined | apply n_Reader_sortOf | apply n_Mod_in | apply n_Mod_within | apply n_Mod_size
def f_Mod_isCell (a0 : Int32) : Int32 := if a0 < 0 then 0 else (if 30 ≤ (a0 / 100) then 0 else (if 30 ≤ (oRem a0 100) then 0 else 1))
theorem c_Mod_isCell (M : oM) (a0 : Int32) : oCt 0 k_Mod_isCell [.inl a0] M (fun r M' => r = some (f_Mod_isCell a0) ∧ M' = M) := by
  refine oCt.of (ls := [some (.inl a0)]) mok_Mod_isCell rfl rfl ?_
  refine oRun_ok 1 rfl ?_
  refine g_if_lt rfl (fun h1 => ?_) (fun h1 => ?_)
  ·
    refine oRun_ok 1 rfl ?_
    exact g_iret rfl rfl rfl ⟨by unfold f_Mod_isCell; rw [if_pos h1], rfl⟩
  ·
    refine oRun_ok 4 rfl ?_
    refine g_ic_ge rfl (fun h10 => ?_) (fun h10 => ?_)
    ·
      refine oRun_ok 1 rfl ?_
      exact g_iret rfl rfl rfl ⟨by unfold f_Mod_isCell; rw [if_neg h1, if_pos h10], rfl⟩
    ·
      refine oRun_ok 4 rfl ?_
      refine g_ic_ge rfl (fun h19 => ?_) (fun h19 => ?_)
      ·
        refine oRun_ok 1 rfl ?_
        exact g_iret rfl rfl rfl ⟨by unfold f_Mod_isCell; rw [if_neg h1, if_neg h10, if_pos h19], rfl⟩
      ·
        refine oRun_ok 2 rfl ?_
        exact g_iret rfl rfl rfl ⟨by unfold f_Mod_isCell; rw [if_neg h1, if_neg h10, if_neg h19], rfl⟩
theorem n_Mod_isCell (a0 : Int32) : narrow .boolean (.int (f_Mod_isCell a0)) = .int (f_Mod_isCell a0) := by
  unfold f_Mod_isCell
  first | rfl | (repeat' split) <;> first | rfl | apply n_Math_abs | apply n_Math_min | apply n_Math_max | apply n_Math_floorDiv | apply n_Integer_bitCount | apply n_Oak_isWithin | apply n_Oak_isStonePlace | apply n_Oak_isCell | apply n_Oak_isYear | apply n_Oak_isSlack | apply n_Oak_isKind | apply n_Oak_isRun | apply n_Oak_isSheet | apply n_Oak_isSlot | apply n_Oak_worthOf | apply n_Oak_trueOf | apply n_Oak_farApart | apply n_Oak_isLetter | apply n_Laws_joined | apply n_Reader_sortOf | apply n_Mod_in | apply n_Mod_within | apply n_Mod_size | apply n_Mod_isSpot
def f_Mod_isRun (a0 : Int32) : Int32 := if a0 < 0 then 0 else (if 8 ≤ (a0 / 100) then 0 else (if (f_Mod_in (oRem a0 100) 1 20) = 0 then 0 else 1))
theorem c_Mod_isRun (M : oM) (a0 : Int32) : oCt 1 k_Mod_isRun [.inl a0] M (fun r M' => r = some (f_Mod_isRun a0) ∧ M' = M) := by
  refine oCt.of (ls := [some (.inl a0)]) mok_Mod_isRun rfl rfl ?_
  refine oRun_ok 1 rfl ?_
  refine g_if_lt rfl (fun h1 => ?_) (fun h1 => ?_)
  ·
    refine oRun_ok 1 rfl ?_
    exact g_iret rfl rfl rfl ⟨by unfold f_Mod_isRun; rw [if_pos h1], rfl⟩
  ·
    refine oRun_ok 4 rfl ?_
    refine g_ic_ge rfl (fun h10 => ?_) (fun h10 => ?_)
    ·
      refine oRun_ok 1 rfl ?_
      exact g_iret rfl rfl rfl ⟨by unfold f_Mod_isRun; rw [if_neg h1, if_pos h10], rfl⟩
    ·
      refine oRun_ok 5 rfl ?_
      refine g_callS rfl rfl rfl rfl mok_Mod_in (by decide) (c_Mod_in M (oRem a0 100) 1 20) ?_
      rintro r20 M20 ⟨rfl, e20⟩; rw [e20]
      refine g_if_eq rfl (fun h23 => ?_) (fun h23 => ?_)
      ·
        refine oRun_ok 1 rfl ?_
        exact g_iret rfl rfl rfl ⟨by unfold f_Mod_isRun; rw [if_neg h1, if_neg h10, if_pos h23], rfl⟩
      ·
        refine oRun_ok 2 rfl ?_
        exact g_iret rfl rfl rfl ⟨by unfold f_Mod_isRun; rw [if_neg h1, if_neg h10, if_neg h23], rfl⟩
theorem n_Mod_isRun (a0 : Int32) : narrow .boolean (.int (f_Mod_isRun a0)) = .int (f_Mod_isRun a0) := by
  unfold f_Mod_isRun
  first | rfl | (repeat' split) <;> first | rfl | apply n_Math_abs | apply n_Math_min | apply n_Math_max | apply n_Math_floorDiv | apply n_Integer_bitCount | apply n_Oak_isWithin | apply n_Oak_isStonePlace | apply n_Oak_isCell | apply n_Oak_isYear | apply n_Oak_isSlack | apply n_Oak_isKind | apply n_Oak_isRun | apply n_Oak_isSheet | apply n_Oak_isSlot | apply n_Oak_worthOf | apply n_Oak_trueOf | apply n_Oak_farApart | apply n_Oak_isLetter | apply n_Laws_joined | apply n_Reader_sortOf | apply n_Mod_in | apply n_Mod_within | apply n_Mod_size | apply n_Mod_isSpot | apply n_Mod_isCell
def f_Mod_trueBy (a0 a1 : Int32) : Int32 := (a0 * (100 + a1)) / 100
theorem c_Mod_trueBy (M : oM) (a0 a1 : Int32) : oCt 0 k_Mod_trueBy [.inl a0, .inl a1] M (fun r M' => r = some (f_Mod_trueBy a0 a1) ∧ M' = M) := by
  refine oCt.of (ls := [some (.inl a0), some (.inl a1)]) mok_Mod_trueBy rfl rfl ?_
  refine oRun_ok 7 rfl ?_
  exact g_iret rfl rfl rfl ⟨by unfold f_Mod_trueBy; rfl, rfl⟩
def f_Mod_isUnder (a0 a1 : Int32) : Int32 := if a1 = 0 then 1 else (if a0 = a1 then 1 else (if a1 = 1 then (if a0 = 3 then 1 else (if a1 = 2 then (if a0 = 4 then 1 else 0) else 0)) else (if a1 = 2 then (if a0 = 4 then 1 else 0) else 0)))
theorem c_Mod_isUnder (M : oM) (a0 a1 : Int32) : oCt 0 k_Mod_isUnder [.inl a0, .inl a1] M (fun r M' => r = some (f_Mod_isUnder a0 a1) ∧ M' = M) := by
  refine oCt.of (ls := [some (.inl a0), some (.inl a1)]) mok_Mod_isUnder rfl rfl ?_
  refine oRun_ok 1 rfl ?_
  refine g_if_eq rfl (fun h1 => ?_) (fun h1 => ?_)
  ·
    refine oRun_ok 2 rfl ?_
    exact g_iret rfl rfl rfl ⟨by unfold f_Mod_isUnder; rw [if_pos h1], rfl⟩
  ·
    refine oRun_ok 2 rfl ?_
    refine g_ic_eq rfl (fun h6 => ?_) (fun h6 => ?_)
    ·
      refine oRun_ok 2 rfl ?_
      exact g_iret rfl rfl rfl ⟨by unfold f_Mod_isUnder; rw [if_neg h1, if_pos h6], rfl⟩
    ·
      refine oRun_ok 2 rfl ?_
      refine g_ic_ne rfl (fun h11 => ?_) (fun h11 => ?_)
      ·
        refine oRun_ok 2 rfl ?_
        refine g_ic_ne rfl (fun h21 => ?_) (fun h21 => ?_)
        ·
          refine oRun_ok 1 rfl ?_
          exact g_iret rfl rfl rfl ⟨by unfold f_Mod_isUnder; rw [if_neg h1, if_neg h6, if_neg h11, if_neg h21], rfl⟩
        ·
          refine oRun_ok 2 rfl ?_
          refine g_ic_ne rfl (fun h26 => ?_) (fun h26 => ?_)
          ·
            refine oRun_ok 1 rfl ?_
            exact g_iret rfl rfl rfl ⟨by unfold f_Mod_isUnder; rw [if_neg h1, if_neg h6, if_neg h11, if_pos h21, if_neg h26], rfl⟩
          ·
            refine oRun_ok 2 rfl ?_
            exact g_iret rfl rfl rfl ⟨by unfold f_Mod_isUnder; rw [if_neg h1, if_neg h6, if_neg h11, if_pos h21, if_pos h26], rfl⟩
      ·
        refine oRun_ok 2 rfl ?_
        refine g_ic_eq rfl (fun h16 => ?_) (fun h16 => ?_)
        ·
          refine oRun_ok 2 rfl ?_
          exact g_iret rfl rfl rfl ⟨by unfold f_Mod_isUnder; rw [if_neg h1, if_neg h6, if_pos h11, if_pos h16], rfl⟩
        ·
          refine oRun_ok 2 rfl ?_
          refine g_ic_ne rfl (fun h21 => ?_) (fun h21 => ?_)
          ·
            refine oRun_ok 1 rfl ?_
            exact g_iret rfl rfl rfl ⟨by unfold f_Mod_isUnder; rw [if_neg h1, if_neg h6, if_pos h11, if_neg h16, if_neg h21], rfl⟩
          ·
            refine oRun_ok 2 rfl ?_
            refine g_ic_ne rfl (fun h26 => ?_) (fun h26 => ?_)
            ·
              refine oRun_ok 1 rfl ?_
              exact g_iret rfl rfl rfl ⟨by unfold f_Mod_isUnder; rw [if_neg h1, if_neg h6, if_pos h11, if_neg h16, if_pos h21, if_neg h26], rfl⟩
            ·
              refine oRun_ok 2 rfl ?_
              exact g_iret rfl rfl rfl ⟨by unfold f_Mod_isUnder; rw [if_neg h1, if_neg h6, if_pos h11, if_neg h16, if_pos h21, if_pos h26], rfl⟩
theorem n_Mod_isUnder (a0 a1 : Int32) : narrow .boolean (.int (f_Mod_isUnder a0 a1)) = .int (f_Mod_isUnder a0 a1) := by
  unfold f_Mod_isUnder
  first | rfl | (repeat' split) <;> first | rfl | apply n_Math_abs | apply n_Math_min | apply n_Math_max | apply n_Math_floorDiv | apply n_Integer_bitCount | apply n_Oak_isWithin | apply n_Oak_isStonePlace | apply n_Oak_isCell | apply n_Oak_isYear | apply n_Oak_isSlack | apply n_Oak_isKind | apply n_Oak_isRun | apply n_Oak_isSheet | apply n_Oak_isSlot | apply n_Oak_worthOf | apply n_Oak_trueOf | apply n_Oak_farApart | apply n_Oak_isLetter | apply n_Laws_joined | apply n_Reader_sortOf | apply n_Mod_in | apply n_Mod_within | apply n_Mod_size | apply n_Mod_isSpot | apply n_Mod_isCell | apply n_Mod_isRun | apply n_Mod_trueBy
def f_Mod_acrossBy (a0 : Int32) : Int32 := if a0 = 0 then 1 else (if a0 = 1 then 1 else (if a0 = 7 then 1 else (if a0 = 2 then 0 else (if a0 = 6 then 0 else (-1)))))
theorem c_Mod_acrossBy (M : oM) (a0 : Int32) : oCt 0 k_Mod_acrossBy [.inl a0] M (fun r M' => r = some (f_Mod_acrossBy a0) ∧ M' = M) := by
  refine oCt.of (ls := [some (.inl a0)]) mok_Mod_acrossBy rfl rfl ?_
  refine oRun_ok 1 rfl ?_
  refine g_if_eq rfl (fun h1 => ?_) (fun h1 => ?_)
  ·
    refine oRun_ok 2 rfl ?_
    exact g_iret rfl rfl rfl ⟨by unfold f_Mod_acrossBy; rw [if_pos h1], rfl⟩
  ·
    refine oRun_ok 2 rfl ?_
    refine g_ic_eq rfl (fun h6 => ?_) (fun h6 => ?_)
    ·
      refine oRun_ok 2 rfl ?_
      exact g_iret rfl rfl rfl ⟨by unfold f_Mod_acrossBy; rw [if_neg h1, if_pos h6], rfl⟩
    ·
      refine oRun_ok 2 rfl ?_
      refine g_ic_ne rfl (fun h12 => ?_) (fun h12 => ?_)
      ·
        refine oRun_ok 2 rfl ?_
        refine g_ic_eq rfl (fun h21 => ?_) (fun h21 => ?_)
        ·
          refine oRun_ok 2 rfl ?_
          exact g_iret rfl rfl rfl ⟨by unfold f_Mod_acrossBy; rw [if_neg h1, if_neg h6, if_neg h12, if_pos h21], rfl⟩
        ·
          refine oRun_ok 2 rfl ?_
          refine g_ic_ne rfl (fun h27 => ?_) (fun h27 => ?_)
          ·
            refine oRun_ok 1 rfl ?_
            exact g_iret rfl rfl rfl ⟨by unfold f_Mod_acrossBy; rw [if_neg h1, if_neg h6, if_neg h12, if_neg h21, if_neg h27], rfl⟩
          ·
            refine oRun_ok 2 rfl ?_
            exact g_iret rfl rfl rfl ⟨by unfold f_Mod_acrossBy; rw [if_neg h1, if_neg h6, if_neg h12, if_neg h21, if_pos h27], rfl⟩
      ·
        refine oRun_ok 2 rfl ?_
        exact g_iret rfl rfl rfl ⟨by unfold f_Mod_acrossBy; rw [if_neg h1, if_neg h6, if_pos h12], rfl⟩
def f_Mod_upBy (a0 : Int32) : Int32 := if a0 ≤ 0 then (if a0 = 0 then 0 else (if a0 = 4 then 0 else (-1))) else (if 4 ≤ a0 then (if a0 = 0 then 0 else (if a0 = 4 then 0 else (-1))) else 1)
theorem c_Mod_upBy (M : oM) (a0 : Int32) : oCt 0 k_Mod_upBy [.inl a0] M (fun r M' => r = some (f_Mod_upBy a0) ∧ M' = M) := by
  refine oCt.of (ls := [some (.inl a0)]) mok_Mod_upBy rfl rfl ?_
  refine oRun_ok 1 rfl ?_
  refine g_if_le rfl (fun h1 => ?_) (fun h1 => ?_)
  ·
    refine oRun_ok 1 rfl ?_
    refine g_if_eq rfl (fun h14 => ?_) (fun h14 => ?_)
    ·
      refine oRun_ok 2 rfl ?_
      exact g_iret rfl rfl rfl ⟨by unfold f_Mod_upBy; rw [if_pos h1, if_pos h14], rfl⟩
    ·
      refine oRun_ok 2 rfl ?_
      refine g_ic_ne rfl (fun h19 => ?_) (fun h19 => ?_)
      ·
        refine oRun_ok 1 rfl ?_
        exact g_iret rfl rfl rfl ⟨by unfold f_Mod_upBy; rw [if_pos h1, if_neg h14, if_neg h19], rfl⟩
      ·
        refine oRun_ok 2 rfl ?_
        exact g_iret rfl rfl rfl ⟨by unfold f_Mod_upBy; rw [if_pos h1, if_neg h14, if_pos h19], rfl⟩
  ·
    refine oRun_ok 2 rfl ?_
    refine g_ic_ge rfl (fun h6 => ?_) (fun h6 => ?_)
    ·
      refine oRun_ok 1 rfl ?_
      refine g_if_eq rfl (fun h14 => ?_) (fun h14 => ?_)
      ·
        refine oRun_ok 2 rfl ?_
        exact g_iret rfl rfl rfl ⟨by unfold f_Mod_upBy; rw [if_neg h1, if_pos h6, if_pos h14], rfl⟩
      ·
        refine oRun_ok 2 rfl ?_
        refine g_ic_ne rfl (fun h19 => ?_) (fun h19 => ?_)
        ·
          refine oRun_ok 1 rfl ?_
          exact g_iret rfl rfl rfl ⟨by unfold f_Mod_upBy; rw [if_neg h1, if_pos h6, if_neg h14, if_neg h19], rfl⟩
        ·
          refine oRun_ok 2 rfl ?_
          exact g_iret rfl rfl rfl ⟨by unfold f_Mod_upBy; rw [if_neg h1, if_pos h6, if_neg h14, if_pos h19], rfl⟩
    ·
      refine oRun_ok 2 rfl ?_
      exact g_iret rfl rfl rfl ⟨by unfold f_Mod_upBy; rw [if_neg h1, if_neg h6], rfl⟩
def f_Mod_isSheet (a0 : Int32) : Int32 := f_Mod_in a0 0 3
theorem c_Mod_isSheet (M : oM) (a0 : Int32) : oCt 1 k_Mod_isSheet [.inl a0] M (fun r M' => r = some (f_Mod_isSheet a0) ∧ M' = M) := by
  refine oCt.of (ls := [some (.inl a0)]) mok_Mod_isSheet rfl rfl ?_
  refine oRun_ok 3 rfl ?_
  refine g_callS rfl rfl rfl rfl mok_Mod_in (by decide) (c_Mod_in M a0 0 3) ?_
  rintro r3 M3 ⟨rfl, e3⟩; rw [e3]
  exact g_iret rfl rfl (n_Mod_in a0 0 3) ⟨by unfold f_Mod_isSheet; rfl, rfl⟩
theorem n_Mod_isSheet (a0 : Int32) : narrow .boolean (.int (f_Mod_isSheet a0)) = .int (f_Mod_isSheet a0) := by
  unfold f_Mod_isSheet
  first | rfl | (repeat' split) <;> first | rfl | apply n_Math_abs | apply n_Math_min | apply n_Math_max | apply n_Math_floorDiv | apply n_Integer_bitCount | apply n_Oak_isWithin | apply n_Oak_isStonePlace | apply n_Oak_isCell | apply n_Oak_isYear | apply n_Oak_isSlack | apply n_Oak_isKind | apply n_Oak_isRun | apply n_Oak_isSheet | apply n_Oak_isSlot | apply n_Oak_worthOf | apply n_Oak_trueOf | apply n_Oak_farApart | apply n_Oak_isLetter | apply n_Laws_joined | apply n_Reader_sortOf | apply n_Mod_in | apply n_Mod_within | apply n_Mod_size | apply n_Mod_isSpot | apply n_Mod_isCell | apply n_Mod_isRun | apply n_Mod_trueBy | apply n_Mod_isUnder | apply n_Mod_acrossBy | apply n_Mod_upBy
def f_Mod_isSlot (a0 : Int32) : Int32 := f_Mod_in a0 0 4
theorem c_Mod_isSlot (M : oM) (a0 : Int32) : oCt 1 k_Mod_isSlot [.inl a0] M (fun r M' => r = some (f_Mod_isSlot a0) ∧ M' = M) := by
  refine oCt.of (ls := [some (.inl a0)]) mok_Mod_isSlot rfl rfl ?_
  refine oRun_ok 3 rfl ?_
  refine g_callS rfl rfl rfl rfl mok_Mod_in (by decide) (c_Mod_in M a0 0 4) ?_
  rintro r3 M3 ⟨rfl, e3⟩; rw [e3]
  exact g_iret rfl rfl (n_Mod_in a0 0 4) ⟨by unfold f_Mod_isSlot; rfl, rfl⟩
theorem n_Mod_isSlot (a0 : Int32) : narrow .boolean (.int (f_Mod_isSlot a0)) = .int (f_Mod_isSlot a0) := by
  unfold f_Mod_isSlot
  first | rfl | (repeat' split) <;> first | rfl | apply n_Math_abs | apply n_Math_min | apply n_Math_max | apply n_Math_floorDiv | apply n_Integer_bitCount | apply n_Oak_isWithin | apply n_Oak_isStonePlace | apply n_Oak_isCell | apply n_Oak_isYear | apply n_Oak_isSlack | apply n_Oak_isKind | apply n_Oak_isRun | apply n_Oak_isSheet | apply n_Oak_isSlot | apply n_Oak_worthOf | apply n_Oak_trueOf | apply n_Oak_farApart | apply n_Oak_isLetter | apply n_Laws_joined | apply n_Reader_sortOf | apply n_Mod_in | apply n_Mod_within | apply n_Mod_size | apply n_Mod_isSpot | apply n_Mod_isCell | apply n_Mod_isRun | apply n_Mod_trueBy | apply n_Mod_isUnder | apply n_Mod_acrossBy | apply n_Mod_upBy | apply n_Mod_isSheet
def f_Mod_rank (a0 : Int32) : Int32 := if a0 = ((-1)) then 1 else (if a0 = ((-2)) then 2 else (if a0 < ((-5)) then (if a0 < ((-7)) then (if a0 < ((-9)) then 6 else 5) else 4) else 3))
theorem c_Mod_rank (M : oM) (a0 : Int32) : oCt 0 k_Mod_rank [.inl a0] M (fun r M' => r = some (f_Mod_rank a0) ∧ M' = M) := by
  refine oCt.of (ls := [some (.inl a0)]) mok_Mod_rank rfl rfl ?_
  refine oRun_ok 2 rfl ?_
  refine g_ic_ne rfl (fun h2 => ?_) (fun h2 => ?_)
  ·
    refine oRun_ok 2 rfl ?_
    refine g_ic_ne rfl (fun h12 => ?_) (fun h12 => ?_)
    ·
      refine oRun_ok 2 rfl ?_
      refine g_ic_lt rfl (fun h22 => ?_) (fun h22 => ?_)
      ·
        refine oRun_ok 2 rfl ?_
        refine g_ic_lt rfl (fun h32 => ?_) (fun h32 => ?_)
        ·
          refine oRun_ok 2 rfl ?_
          refine g_ic_lt rfl (fun h42 => ?_) (fun h42 => ?_)
          ·
            refine oRun_ok 1 rfl ?_
            exact g_iret rfl rfl rfl ⟨by unfold f_Mod_rank; rw [if_neg h2, if_neg h12, if_pos h22, if_pos h32, if_pos h42], rfl⟩
          ·
            refine oRun_ok 2 rfl ?_
            exact g_iret rfl rfl rfl ⟨by unfold f_Mod_rank; rw [if_neg h2, if_neg h12, if_pos h22, if_pos h32, if_neg h42], rfl⟩
        ·
          refine oRun_ok 2 rfl ?_
          exact g_iret rfl rfl rfl ⟨by unfold f_Mod_rank; rw [if_neg h2, if_neg h12, if_pos h22, if_neg h32], rfl⟩
      ·
        refine oRun_ok 2 rfl ?_
        exact g_iret rfl rfl rfl ⟨by unfold f_Mod_rank; rw [if_neg h2, if_neg h12, if_neg h22], rfl⟩
    ·
      refine oRun_ok 2 rfl ?_
      exact g_iret rfl rfl rfl ⟨by unfold f_Mod_rank; rw [if_neg h2, if_pos h12], rfl⟩
  ·
    refine oRun_ok 2 rfl ?_
    exact g_iret rfl rfl rfl ⟨by unfold f_Mod_rank; rw [if_pos h2], rfl⟩
def f_Mod_two (a0 a1 a2 : Int32) : Int32 := if a0 = (-8) then a1 * a2 else (if a0 = (-7) then a1 - a2 else (if a0 = (-6) then a1 + a2 else (if a0 = (-5) then (if a1 ≤ a2 then 0 else 1) else (if a0 = (-4) then (if a1 = a2 then 1 else 0) else (if a0 = (-3) then (if a2 ≤ a1 then 0 else 1) else (if a0 = (-2) then (if a1 = 0 then 0 else (if a2 = 0 then 0 else 1)) else (if a0 = (-1) then (if a1 = 0 then (if a2 = 0 then 0 else 1) else 1) else (if a2 = 0 then 0 else a1 / a2))))))))
theorem c_Mod_two (M : oM) (a0 a1 a2 : Int32) : oCt 0 k_Mod_two [.inl a0, .inl a1, .inl a2] M (fun r M' => r = some (f_Mod_two a0 a1 a2) ∧ M' = M) := by
  refine oCt.of (ls := [some (.inl a0), some (.inl a1), some (.inl a2)]) mok_Mod_two rfl rfl ?_
  refine oRun_ok 1 rfl ?_
  refine g_tsw [((-8), 117), ((-7), 113), ((-6), 109), ((-5), 98), ((-4), 87), ((-3), 76), ((-2), 62), ((-1), 48)] 121 rfl (by decide +kernel) rfl ⟨fun h1 => ?_, fun h1 => ?_, fun h1 => ?_, fun h1 => ?_, fun h1 => ?_, fun h1 => ?_, fun h1 => ?_, fun h1 => ?_, trivial⟩ (fun h1 => ?_)
  ·
    refine oRun_ok 3 rfl ?_
    exact g_iret rfl rfl rfl ⟨by unfold f_Mod_two; rw [if_pos h1], rfl⟩
  ·
    have n1_0 : ¬ a0 = (-8) := by rw [h1]; decide
    refine oRun_ok 3 rfl ?_
    exact g_iret rfl rfl rfl ⟨by unfold f_Mod_two; rw [if_neg n1_0, if_pos h1], rfl⟩
  ·
    have n1_0 : ¬ a0 = (-8) := by rw [h1]; decide
    have n1_1 : ¬ a0 = (-7) := by rw [h1]; decide
    refine oRun_ok 3 rfl ?_
    exact g_iret rfl rfl rfl ⟨by unfold f_Mod_two; rw [if_neg n1_0, if_neg n1_1, if_pos h1], rfl⟩
  ·
    have n1_0 : ¬ a0 = (-8) := by rw [h1]; decide
    have n1_1 : ¬ a0 = (-7) := by rw [h1]; decide
    have n1_2 : ¬ a0 = (-6) := by rw [h1]; decide
    refine oRun_ok 2 rfl ?_
    refine g_ic_le rfl (fun h100 => ?_) (fun h100 => ?_)
    ·
      refine oRun_ok 1 rfl ?_
      exact g_iret rfl rfl rfl ⟨by unfold f_Mod_two; rw [if_neg n1_0, if_neg n1_1, if_neg n1_2, if_pos h1, if_pos h100], rfl⟩
    ·
      refine oRun_ok 2 rfl ?_
      exact g_iret rfl rfl rfl ⟨by unfold f_Mod_two; rw [if_neg n1_0, if_neg n1_1, if_neg n1_2, if_pos h1, if_neg h100], rfl⟩
  ·
    have n1_0 : ¬ a0 = (-8) := by rw [h1]; decide
    have n1_1 : ¬ a0 = (-7) := by rw [h1]; decide
    have n1_2 : ¬ a0 = (-6) := by rw [h1]; decide
    have n1_3 : ¬ a0 = (-5) := by rw [h1]; decide
    refine oRun_ok 2 rfl ?_
    refine g_ic_ne rfl (fun h89 => ?_) (fun h89 => ?_)
    ·
      refine oRun_ok 1 rfl ?_
      exact g_iret rfl rfl rfl ⟨by unfold f_Mod_two; rw [if_neg n1_0, if_neg n1_1, if_neg n1_2, if_neg n1_3, if_pos h1, if_neg h89], rfl⟩
    ·
      refine oRun_ok 2 rfl ?_
      exact g_iret rfl rfl rfl ⟨by unfold f_Mod_two; rw [if_neg n1_0, if_neg n1_1, if_neg n1_2, if_neg n1_3, if_pos h1, if_pos h89], rfl⟩
  ·
    have n1_0 : ¬ a0 = (-8) := by rw [h1]; decide
    have n1_1 : ¬ a0 = (-7) := by rw [h1]; decide
    have n1_2 : ¬ a0 = (-6) := by rw [h1]; decide
    have n1_3 : ¬ a0 = (-5) := by rw [h1]; decide
    have n1_4 : ¬ a0 = (-4) := by rw [h1]; decide
    refine oRun_ok 2 rfl ?_
    refine g_ic_ge rfl (fun h78 => ?_) (fun h78 => ?_)
    ·
      refine oRun_ok 1 rfl ?_
      exact g_iret rfl rfl rfl ⟨by unfold f_Mod_two; rw [if_neg n1_0, if_neg n1_1, if_neg n1_2, if_neg n1_3, if_neg n1_4, if_pos h1, if_pos h78], rfl⟩
    ·
      refine oRun_ok 2 rfl ?_
      exact g_iret rfl rfl rfl ⟨by unfold f_Mod_two; rw [if_neg n1_0, if_neg n1_1, if_neg n1_2, if_neg n1_3, if_neg n1_4, if_pos h1, if_neg h78], rfl⟩
  ·
    have n1_0 : ¬ a0 = (-8) := by rw [h1]; decide
    have n1_1 : ¬ a0 = (-7) := by rw [h1]; decide
    have n1_2 : ¬ a0 = (-6) := by rw [h1]; decide
    have n1_3 : ¬ a0 = (-5) := by rw [h1]; decide
    have n1_4 : ¬ a0 = (-4) := by rw [h1]; decide
    have n1_5 : ¬ a0 = (-3) := by rw [h1]; decide
    refine oRun_ok 1 rfl ?_
    refine g_if_eq rfl (fun h63 => ?_) (fun h63 => ?_)
    ·
      refine oRun_ok 1 rfl ?_
      exact g_iret rfl rfl rfl ⟨by unfold f_Mod_two; rw [if_neg n1_0, if_neg n1_1, if_neg n1_2, if_neg n1_3, if_neg n1_4, if_neg n1_5, if_pos h1, if_pos h63], rfl⟩
    ·
      refine oRun_ok 1 rfl ?_
      refine g_if_eq rfl (fun h67 => ?_) (fun h67 => ?_)
      ·
        refine oRun_ok 1 rfl ?_
        exact g_iret rfl rfl rfl ⟨by unfold f_Mod_two; rw [if_neg n1_0, if_neg n1_1, if_neg n1_2, if_neg n1_3, if_neg n1_4, if_neg n1_5, if_pos h1, if_neg h63, if_pos h67], rfl⟩
      ·
        refine oRun_ok 2 rfl ?_
        exact g_iret rfl rfl rfl ⟨by unfold f_Mod_two; rw [if_neg n1_0, if_neg n1_1, if_neg n1_2, if_neg n1_3, if_neg n1_4, if_neg n1_5, if_pos h1, if_neg h63, if_neg h67], rfl⟩
  ·
    have n1_0 : ¬ a0 = (-8) := by rw [h1]; decide
    have n1_1 : ¬ a0 = (-7) := by rw [h1]; decide
    have n1_2 : ¬ a0 = (-6) := by rw [h1]; decide
    have n1_3 : ¬ a0 = (-5) := by rw [h1]; decide
    have n1_4 : ¬ a0 = (-4) := by rw [h1]; decide
    have n1_5 : ¬ a0 = (-3) := by rw [h1]; decide
    have n1_6 : ¬ a0 = (-2) := by rw [h1]; decide
    refine oRun_ok 1 rfl ?_
    refine g_if_ne rfl (fun h49 => ?_) (fun h49 => ?_)
    ·
      refine oRun_ok 2 rfl ?_
      exact g_iret rfl rfl rfl ⟨by unfold f_Mod_two; rw [if_neg n1_0, if_neg n1_1, if_neg n1_2, if_neg n1_3, if_neg n1_4, if_neg n1_5, if_neg n1_6, if_pos h1, if_neg h49], rfl⟩
    ·
      refine oRun_ok 1 rfl ?_
      refine g_if_eq rfl (fun h53 => ?_) (fun h53 => ?_)
      ·
        refine oRun_ok 1 rfl ?_
        exact g_iret rfl rfl rfl ⟨by unfold f_Mod_two; rw [if_neg n1_0, if_neg n1_1, if_neg n1_2, if_neg n1_3, if_neg n1_4, if_neg n1_5, if_neg n1_6, if_pos h1, if_pos h49, if_pos h53], rfl⟩
      ·
        refine oRun_ok 2 rfl ?_
        exact g_iret rfl rfl rfl ⟨by unfold f_Mod_two; rw [if_neg n1_0, if_neg n1_1, if_neg n1_2, if_neg n1_3, if_neg n1_4, if_neg n1_5, if_neg n1_6, if_pos h1, if_pos h49, if_neg h53], rfl⟩
  ·
    have n1_0 : ¬ a0 = (-8) := h1 ((-8), 117) (by decide)
    have n1_1 : ¬ a0 = (-7) := h1 ((-7), 113) (by decide)
    have n1_2 : ¬ a0 = (-6) := h1 ((-6), 109) (by decide)
    have n1_3 : ¬ a0 = (-5) := h1 ((-5), 98) (by decide)
    have n1_4 : ¬ a0 = (-4) := h1 ((-4), 87) (by decide)
    have n1_5 : ¬ a0 = (-3) := h1 ((-3), 76) (by decide)
    have n1_6 : ¬ a0 = (-2) := h1 ((-2), 62) (by decide)
    have n1_7 : ¬ a0 = (-1) := h1 ((-1), 48) (by decide)
    refine oRun_ok 1 rfl ?_
    refine g_if_ne rfl (fun h122 => ?_) (fun h122 => ?_)
    ·
      refine oRun_ok 2 rfl ?_
      refine g_idiv rfl h122 ?_
      exact g_iret rfl rfl rfl ⟨by unfold f_Mod_two; rw [if_neg n1_0, if_neg n1_1, if_neg n1_2, if_neg n1_3, if_neg n1_4, if_neg n1_5, if_neg n1_6, if_neg n1_7, if_neg h122], rfl⟩
    ·
      refine oRun_ok 2 rfl ?_
      exact g_iret rfl rfl rfl ⟨by unfold f_Mod_two; rw [if_neg n1_0, if_neg n1_1, if_neg n1_2, if_neg n1_3, if_neg n1_4, if_neg n1_5, if_neg n1_6, if_neg n1_7, if_pos h122], rfl⟩
