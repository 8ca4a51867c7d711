/-! ===== Laws ===== -/
def oLr : Option Nat → Int32
  | none => -1000000005
  | some t => nI t
theorem c_Laws_lastOf (M : oM) (N : Nat → Int32) (key : Int32) (n : Nat) (hn : n ≤ 14) (hk : ∀ t, t < n → M K_TEXT t 0 = tK N t) : oCt 1 k_Laws_lastOf [.inr (K_LAWS, 0), .inl key, .inl (nI n)] M (fun r M' => r = some (oLr (oLast N key n)) ∧ M' = M) := by
  refine oCt.of (ls := [some (.inr (K_LAWS, 0)), some (.inl key), some (.inl (nI n)), none]) mok_Laws_lastOf rfl rfl ?_
  have loop : ∀ (t : Nat), t ≤ n → oLast N key n = oLast N key t → oG k_Laws_lastOf 1 9 [some (.inr (K_LAWS, 0)), some (.inl key), some (.inl (nI n)), some (.inl (nI t - 1))] [] M (fun r M' => r = some (oLr (oLast N key n)) ∧ M' = M) := by
    intro t
    induction t with
    | zero =>
      intro _ he
      refine oRun_ok 1 rfl ?_
      refine g_if_lt rfl (fun h10 => ?_) (fun h10 => ?_)
      · refine oRun_ok 1 rfl ?_
        exact g_iret rfl rfl rfl ⟨by rw [he]; rfl, rfl⟩
      · exact absurd (by decide) h10
    | succ t ih =>
      intro ht he
      rw [nI_pred]
      refine oRun_ok 1 rfl ?_
      refine g_if_lt rfl (fun h10 => ?_) (fun h10 => ?_)
      · exact absurd h10 (nI_pos (by omega))
      · refine oRun_ok 3 rfl ?_
        refine g_aald t rfl rfl rfl (by omega) (Nat.zero_add t).symm ?_
        refine oRun_ok 2 rfl ?_
        rw [hk t (by omega)]
        rw [show oLast N key (t + 1) = if tK N t = key then some t else oLast N key t from rfl] at he
        refine g_ic_ne rfl (fun h23 => ?_) (fun h23 => ?_)
        · refine oRun_ok 2 rfl ?_
          rw [if_neg h23] at he
          rw [← Int32.sub_eq_add_neg]
          exact ih (by omega) he
        · refine oRun_ok 1 rfl ?_
          rw [if_pos h23] at he
          exact g_iret rfl rfl rfl ⟨by rw [he]; rfl, rfl⟩
  refine oRun_ok 2 rfl ?_
  refine g_callS rfl rfl rfl rfl mok_Math_min (by decide) (c_Math_min M _ _) ?_
  rintro r3 M3 ⟨rfl, e⟩; rw [e]
  have hm : f_Math_min (nI n) 14 = nI n := by
    unfold f_Math_min
    rw [if_neg (fun h => by rw [show (14 : Int32) = nI 14 from rfl, nIlt (by omega) (by omega)] at h; omega)]
  rw [hm]
  refine oRun_ok 3 rfl ?_
  exact loop n (Nat.le_refl n) rfl
def oNam (M : oM) (i : Nat) (c num : Int32) : Int32 := if c = 99 then M K_DEED i 4 else if c = 110 then num else if c = 115 then M K_DEED i 3 else M K_DEED i 2
theorem c_Laws_named (M : oM) (i : Nat) (c num : Int32) : oCt 0 k_Laws_named [.inl c, .inr (K_DEED, i), .inl num] M (fun r M' => r = some (oNam M i c num) ∧ M' = M) := by
  refine oCt.of (ls := [some (.inl c), some (.inr (K_DEED, i)), some (.inl num)]) mok_Laws_named rfl rfl ?_
  refine oRun_ok 1 rfl ?_
  unfold oNam
  refine g_lsw [(99, 43), (110, 41), (115, 36)] 48 rfl (by decide +kernel) (by decide +kernel) rfl ⟨fun h => ?_, fun h => ?_, fun h => ?_, trivial⟩ (fun h => ?_)
  · refine oRun_ok 2 rfl ?_
    exact g_iret rfl rfl rfl ⟨by rw [if_pos h], rfl⟩
  · refine oRun_ok 1 rfl ?_
    exact g_iret rfl rfl rfl ⟨by rw [if_neg (by rw [h]; decide), if_pos h], rfl⟩
  · refine oRun_ok 2 rfl ?_
    exact g_iret rfl rfl rfl ⟨by rw [if_neg (by rw [h]; decide), if_neg (by rw [h]; decide), if_pos h], rfl⟩
  · refine oRun_ok 2 rfl ?_
    have h1 : ¬ c = 99 := h (99, 43) (by decide)
    have h2 : ¬ c = 110 := h (110, 41) (by decide)
    have h3 : ¬ c = 115 := h (115, 36) (by decide)
    exact g_iret rfl rfl rfl ⟨by rw [if_neg h1, if_neg h2, if_neg h3], rfl⟩
/-- what a code of the class stands for -/
theorem oTr_cases {key cc c : Int32} (h : oTr key cc = some c) :
    (0 ≤ cc ∧ c = cc ∧ cc ≤ 9999) ∨
    (cc < 0 ∧ 0 ≤ c ∧ ¬ c < 10000 ∧ ¬ f_Oak_isLetter (-cc) = 0 ∧ ∀ (M : oM) (i : Nat) (num : Int32) (g : Nat → Int32), M K_DEED i 2 = g 0 → (key = 1 → M K_DEED i 3 = g 1) → (key = 2 → num = g 1 ∧ M K_DEED i 4 = g 2) → oNam M i (-cc) num = g (c - 10000).toNatClampNeg) ∨
    (cc = -33 ∧ c = -10) ∨
    (cc < 0 ∧ ¬ cc = -33 ∧ f_Oak_isLetter (-cc) = 0 ∧ ¬ 0 ≤ c ∧ ¬ c = -10 ∧ ∀ a b, f_Laws_joined (-cc) a b = f_Mod_two c a b) := by
  unfold oTr at h
  by_cases h0 : 0 ≤ cc
  · rw [if_pos h0] at h
    by_cases h1 : cc ≤ 9999
    · rw [if_pos h1] at h
      cases h
      exact Or.inl ⟨h0, rfl, h1⟩
    · rw [if_neg h1] at h
      cases h
  rw [if_neg h0] at h
  by_cases e : cc = -121
  · rw [if_pos e] at h
    cases h
    subst e
    exact Or.inr (Or.inl ⟨by decide, by decide, by decide, by decide, fun M i num g h1 _ _ => h1⟩)
  rw [if_neg e] at h
  by_cases e : cc = -115
  · rw [if_pos e] at h
    by_cases ek : key = 1
    · rw [if_pos ek] at h
      cases h
      subst e
      exact Or.inr (Or.inl ⟨by decide, by decide, by decide, by decide, fun M i num g _ h2 _ => h2 ek⟩)
    · rw [if_neg ek] at h
      cases h
  rw [if_neg e] at h
  by_cases e : cc = -110
  · rw [if_pos e] at h
    by_cases ek : key = 2
    · rw [if_pos ek] at h
      cases h
      subst e
      exact Or.inr (Or.inl ⟨by decide, by decide, by decide, by decide, fun M i num g _ _ h3 => (h3 ek).1⟩)
    · rw [if_neg ek] at h
      cases h
  rw [if_neg e] at h
  by_cases e : cc = -99
  · rw [if_pos e] at h
    by_cases ek : key = 2
    · rw [if_pos ek] at h
      cases h
      subst e
      exact Or.inr (Or.inl ⟨by decide, by decide, by decide, by decide, fun M i num g _ _ h3 => (h3 ek).2⟩)
    · rw [if_neg ek] at h
      cases h
  rw [if_neg e] at h
  by_cases e : cc = -124
  · rw [if_pos e] at h
    cases h
    subst e
    exact Or.inr (Or.inr (Or.inr ⟨by decide, by decide, by decide, by decide, by decide, fun a b => by simp [f_Laws_joined, f_Mod_two]⟩))
  rw [if_neg e] at h
  by_cases e : cc = -38
  · rw [if_pos e] at h
    cases h
    subst e
    exact Or.inr (Or.inr (Or.inr ⟨by decide, by decide, by decide, by decide, by decide, fun a b => by simp [f_Laws_joined, f_Mod_two]⟩))
  rw [if_neg e] at h
  by_cases e : cc = -60
  · rw [if_pos e] at h
    cases h
    subst e
    exact Or.inr (Or.inr (Or.inr ⟨by decide, by decide, by decide, by decide, by decide, fun a b => by simp [f_Laws_joined, f_Mod_two]⟩))
  rw [if_neg e] at h
  by_cases e : cc = -61
  · rw [if_pos e] at h
    cases h
    subst e
    exact Or.inr (Or.inr (Or.inr ⟨by decide, by decide, by decide, by decide, by decide, fun a b => by simp [f_Laws_joined, f_Mod_two]⟩))
  rw [if_neg e] at h
  by_cases e : cc = -62
  · rw [if_pos e] at h
    cases h
    subst e
    exact Or.inr (Or.inr (Or.inr ⟨by decide, by decide, by decide, by decide, by decide, fun a b => by simp [f_Laws_joined, f_Mod_two]⟩))
  rw [if_neg e] at h
  by_cases e : cc = -43
  · rw [if_pos e] at h
    cases h
    subst e
    exact Or.inr (Or.inr (Or.inr ⟨by decide, by decide, by decide, by decide, by decide, fun a b => by simp [f_Laws_joined, f_Mod_two]⟩))
  rw [if_neg e] at h
  by_cases e : cc = -45
  · rw [if_pos e] at h
    cases h
    subst e
    exact Or.inr (Or.inr (Or.inr ⟨by decide, by decide, by decide, by decide, by decide, fun a b => by simp [f_Laws_joined, f_Mod_two]⟩))
  rw [if_neg e] at h
  by_cases e : cc = -42
  · rw [if_pos e] at h
    cases h
    subst e
    exact Or.inr (Or.inr (Or.inr ⟨by decide, by decide, by decide, by decide, by decide, fun a b => by simp [f_Laws_joined, f_Mod_two]⟩))
  rw [if_neg e] at h
  by_cases e : cc = -47
  · rw [if_pos e] at h
    cases h
    subst e
    exact Or.inr (Or.inr (Or.inr ⟨by decide, by decide, by decide, by decide, by decide, fun a b => by simp [f_Laws_joined, f_Mod_two]⟩))
  rw [if_neg e] at h
  by_cases e : cc = -33
  · rw [if_pos e] at h
    cases h
    exact Or.inr (Or.inr (Or.inl ⟨e, rfl⟩))
  rw [if_neg e] at h
  cases h
