def bI (b : Bool) : Int32 := if b then 1 else 0
theorem c_Oak_isWithin (M : oM) (v a b : Int32) : oCt 0 k_Oak_isWithin [.inl v, .inl a, .inl b] M (fun r M' => r = some (bI (decide (a ≤ v ∧ v ≤ b))) ∧ M' = M) := by
  refine oCt.of mok_Oak_isWithin rfl rfl ?_
  refine oRun_ok 2 rfl ?_
  refine g_ic_lt rfl (fun h2 => ?_) (fun h2 => ?_)
  · refine oRun_ok 1 rfl ?_
    exact g_iret rfl rfl rfl ⟨by sorry, rfl⟩
  · refine oRun_ok 2 rfl ?_
    refine g_ic_gt rfl (fun h7 => ?_) (fun h7 => ?_)
    · refine oRun_ok 1 rfl ?_
      exact g_iret rfl rfl rfl ⟨by sorry, rfl⟩
    · refine oRun_ok 2 rfl ?_
      exact g_iret rfl rfl rfl ⟨by sorry, rfl⟩
theorem c_Deed_addCall (M : oM) (i n : Nat) (a b c : Int32) (hn : M K_DEED i 4 = nI n) (h : n < 10) : oCt 0 k_Deed_addCall [.inr (K_DEED, i), .inl a, .inl b, .inl c] M (fun r M' => r = none ∧ M' = oUp (oUp (oUp (oUp M K_DK i n a) K_DW i n b) K_DL i n c) K_DEED i 4 (nI (n + 1))) := by
  refine oCt.of mok_Deed_addCall rfl rfl ?_
  refine oRun_ok 3 rfl ?_
  refine g_ic_ge rfl (fun h6 => ?_) (fun h6 => ?_)
  · sorry
  · refine oRun_ok 5 rfl ?_
    refine g_iast n rfl rfl hn h ?_
    refine oRun_ok 5 rfl ?_
    refine g_iast n rfl rfl hn h ?_
    refine oRun_ok 5 rfl ?_
    refine g_iast n rfl rfl hn h ?_
    refine oRun_ok 6 rfl ?_
    trace_state
    refine g_ret rfl rfl ⟨rfl, ?_⟩
    trace_state
    sorry
