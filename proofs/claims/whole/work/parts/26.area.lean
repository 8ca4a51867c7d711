/-! ===== Walk: the area ===== -/
/-- the area over the first n sides of corners -/
def sAr (cx cy : Nat → Int32) (n : Nat) : Nat → Int32
  | 0 => 0
  | k + 1 => sAr cx cy n k + (cx k * cy (if k + 1 = n then 0 else k + 1) - cy k * cx (if k + 1 = n then 0 else k + 1))
theorem c_Walk_twiceArea (M : oM) (w n : Nat) (hn : M K_WALK w 3 = nI n) (hn11 : n ≤ 11) : oCt 1 k_Walk_twiceArea [.inr (K_WALK, w)] M (fun r M' => r = some (sAr (M K_WX w) (M K_WY w) n n) ∧ M' = M) := by
  refine oCt.of (ls := [some (.inr (K_WALK, w)), none, none, none]) mok_Walk_twiceArea rfl rfl ?_
  have loop : ∀ (q k : Nat) (x3 : Option oV), k + q = n → oG k_Walk_twiceArea 1 4 [some (.inr (K_WALK, w)), some (.inl (sAr (M K_WX w) (M K_WY w) n k)), some (.inl (nI k)), x3] [] M (fun r M' => r = some (sAr (M K_WX w) (M K_WY w) n n) ∧ M' = M) := by
    intro q
    induction q with
    | zero =>
      intro k x3 hk
      have hk : k = n := by omega
      subst hk
      refine oRun_ok 3 rfl ?_
      rw [show M 9 w 3 = nI k from hn]
      refine g_ic_ge rfl (fun _ => ?_) (fun h => absurd (Int32.le_refl _) h)
      refine oRun_ok 1 rfl ?_
      exact g_iret rfl rfl rfl ⟨rfl, rfl⟩
    | succ q ih =>
      intro k x3 hk
      refine oRun_ok 3 rfl ?_
      rw [show M 9 w 3 = nI n from hn]
      refine g_ic_ge rfl (fun h9 => ?_) (fun _ => ?_)
      · rw [nIle (by omega) (by omega)] at h9
        omega
      refine oRun_ok 2 rfl ?_
      refine g_callV rfl rfl rfl rfl rfl mok_Walk_nextCorner (by decide) (c_Walk_nextCorner M w k n hn hn11 (by omega)) ?_
      rintro r14 M14 ⟨rfl, e⟩; rw [e]
      have hx : (if k + 1 = n then 0 else k + 1) < 11 := by split <;> omega
      refine oRun_ok 5 rfl ?_
      refine g_iald k rfl rfl rfl (by omega) ?_
      refine oRun_ok 3 rfl ?_
      refine g_iald _ rfl rfl rfl hx ?_
      refine oRun_ok 4 rfl ?_
      refine g_iald k rfl rfl rfl (by omega) ?_
      refine oRun_ok 3 rfl ?_
      refine g_iald _ rfl rfl rfl hx ?_
      refine oRun_ok 6 rfl ?_
      rw [nI_1]
      exact ih (k + 1) _ (by omega)
  refine oRun_ok 4 rfl ?_
  exact loop n 0 _ (by omega)
