/-! ===== the law: one case after another ===== -/
theorem lw_s1 {M M1 : oM} (h : oFr oCls M M1) : M1 60 = M 60 := by
  funext i
  exact h 60 i (fun z => absurd (show 60 < 31 from z) (by decide))
theorem lw_s2 {M M1 : oM} (h : oFr oMdl M M1) : M1 60 = M 60 := by
  funext i
  exact h 60 i (fun z => absurd (show 31 ≤ 60 ∧ 60 < 60 from z) (by decide))
theorem lw_in {M1 M2 : oM} {p : Int32 × oM} (i1 : oI M1 p.2) (i2 : oPs p.2 M2) (f2 : oFr oMdl M1 M2) : oI M2 M2 := (i1.ps i2).cls f2.sm
set_option maxRecDepth 100000 in
theorem lw_0 {M : oM} {i n : Nat} {Q : Option Int32 → oM → Prop} (hI : oI M M) (hl : M 60 1 0 = nI n) (hi : i + 6 ≤ n) (hb : n < 2147483648) (k : ∀ M2, oI M2 M2 → M2 60 = M 60 → oG k_Law_law 200 1693 [some (.inr (K_SCR, 0)), some (.inr (K_OAK, 0)), some (.inr (K_MOD, 0)), some (.inl (nI i))] [] M2 Q) : oG k_Law_law 200 228 [some (.inr (K_SCR, 0)), some (.inr (K_OAK, 0)), some (.inr (K_MOD, 0)), some (.inl (nI i))] [] M Q := by
  refine oRun_ok 5 rfl ?_
  rw [show (1 : Int32) = nI 1 from rfl, nI_plus]
  refine g_sld (i + 1) rfl rfl (by rw [hl, nIc hb]; omega) ?_
  refine oRun_ok 4 rfl ?_
  rw [show (2 : Int32) = nI 2 from rfl, nI_plus]
  refine g_sld (i + 2) rfl rfl (by rw [hl, nIc hb]; omega) ?_
  refine g_callV rfl rfl rfl rfl rfl mok_Oak_stone (by decide) (p_stone M M (M 60 0 (i + 1)) (M 60 0 (i + 2)) hI) ?_
  rintro r M1 ⟨rfl, i1, f1⟩
  have e1 : M1 60 = M 60 := lw_s1 f1
  have hl1 : M1 60 1 0 = nI n := by rw [e1]; exact hl
  refine oRun_ok 5 rfl ?_
  rw [show (1 : Int32) = nI 1 from rfl, nI_plus]
  refine g_sld (i + 1) rfl rfl (by rw [hl1, nIc hb]; omega) ?_
  rw [show M1 60 0 (i + 1) = M 60 0 (i + 1) from congrFun (congrFun e1 0) _]
  refine oRun_ok 4 rfl ?_
  rw [show (2 : Int32) = nI 2 from rfl, nI_plus]
  refine g_sld (i + 2) rfl rfl (by rw [hl1, nIc hb]; omega) ?_
  rw [show M1 60 0 (i + 2) = M 60 0 (i + 2) from congrFun (congrFun e1 0) _]
  refine g_callV rfl rfl rfl rfl rfl mok_Mod_stone (by decide) (q_stone (C := M) (D := M) (M := M1) (M 60 0 (i + 1)) (M 60 0 (i + 2)) hI f1.ps) ?_
  rintro r M2 ⟨rfl, i2, f2⟩
  refine g_ic_eq rfl (fun _ => ?_) (fun z => absurd rfl z)
  exact k M2 (lw_in i1 i2 f2) ((lw_s2 f2).trans e1)
set_option maxRecDepth 100000 in
theorem lw_1 {M : oM} {i n : Nat} {Q : Option Int32 → oM → Prop} (hI : oI M M) (hl : M 60 1 0 = nI n) (hi : i + 6 ≤ n) (hb : n < 2147483648) (k : ∀ M2, oI M2 M2 → M2 60 = M 60 → oG k_Law_law 200 1693 [some (.inr (K_SCR, 0)), some (.inr (K_OAK, 0)), some (.inr (K_MOD, 0)), some (.inl (nI i))] [] M2 Q) : oG k_Law_law 200 261 [some (.inr (K_SCR, 0)), some (.inr (K_OAK, 0)), some (.inr (K_MOD, 0)), some (.inl (nI i))] [] M Q := by
  refine oRun_ok 5 rfl ?_
  rw [show (1 : Int32) = nI 1 from rfl, nI_plus]
  refine g_sld (i + 1) rfl rfl (by rw [hl, nIc hb]; omega) ?_
  refine oRun_ok 4 rfl ?_
  rw [show (2 : Int32) = nI 2 from rfl, nI_plus]
  refine g_sld (i + 2) rfl rfl (by rw [hl, nIc hb]; omega) ?_
  refine g_callV rfl rfl rfl rfl rfl mok_Oak_stoneTold (by decide) (p_stoneTold M M (M 60 0 (i + 1)) (M 60 0 (i + 2)) hI) ?_
  rintro r M1 ⟨rfl, i1, f1⟩
  have e1 : M1 60 = M 60 := lw_s1 f1
  have hl1 : M1 60 1 0 = nI n := by rw [e1]; exact hl
  refine oRun_ok 5 rfl ?_
  rw [show (1 : Int32) = nI 1 from rfl, nI_plus]
  refine g_sld (i + 1) rfl rfl (by rw [hl1, nIc hb]; omega) ?_
  rw [show M1 60 0 (i + 1) = M 60 0 (i + 1) from congrFun (congrFun e1 0) _]
  refine oRun_ok 4 rfl ?_
  rw [show (2 : Int32) = nI 2 from rfl, nI_plus]
  refine g_sld (i + 2) rfl rfl (by rw [hl1, nIc hb]; omega) ?_
  rw [show M1 60 0 (i + 2) = M 60 0 (i + 2) from congrFun (congrFun e1 0) _]
  refine g_callV rfl rfl rfl rfl rfl mok_Mod_stoneTold (by decide) (q_stoneTold (C := M) (D := M) (M := M1) (M 60 0 (i + 1)) (M 60 0 (i + 2)) hI f1.ps) ?_
  rintro r M2 ⟨rfl, i2, f2⟩
  refine g_ic_eq rfl (fun _ => ?_) (fun z => absurd rfl z)
  exact k M2 (lw_in i1 i2 f2) ((lw_s2 f2).trans e1)
set_option maxRecDepth 100000 in
theorem lw_2 {M : oM} {i n : Nat} {Q : Option Int32 → oM → Prop} (hI : oI M M) (hl : M 60 1 0 = nI n) (hi : i + 6 ≤ n) (hb : n < 2147483648) (k : ∀ M2, oI M2 M2 → M2 60 = M 60 → oG k_Law_law 200 1693 [some (.inr (K_SCR, 0)), some (.inr (K_OAK, 0)), some (.inr (K_MOD, 0)), some (.inl (nI i))] [] M2 Q) : oG k_Law_law 200 294 [some (.inr (K_SCR, 0)), some (.inr (K_OAK, 0)), some (.inr (K_MOD, 0)), some (.inl (nI i))] [] M Q := by
  refine oRun_ok 5 rfl ?_
  rw [show (1 : Int32) = nI 1 from rfl, nI_plus]
  refine g_sld (i + 1) rfl rfl (by rw [hl, nIc hb]; omega) ?_
  refine oRun_ok 4 rfl ?_
  rw [show (2 : Int32) = nI 2 from rfl, nI_plus]
  refine g_sld (i + 2) rfl rfl (by rw [hl, nIc hb]; omega) ?_
  refine oRun_ok 4 rfl ?_
  rw [show (3 : Int32) = nI 3 from rfl, nI_plus]
  refine g_sld (i + 3) rfl rfl (by rw [hl, nIc hb]; omega) ?_
  refine g_callV rfl rfl rfl rfl rfl mok_Oak_move (by decide) (p_move M M (M 60 0 (i + 1)) (M 60 0 (i + 2)) (M 60 0 (i + 3)) hI) ?_
  rintro r M1 ⟨rfl, i1, f1⟩
  have e1 : M1 60 = M 60 := lw_s1 f1
  have hl1 : M1 60 1 0 = nI n := by rw [e1]; exact hl
  refine oRun_ok 5 rfl ?_
  rw [show (1 : Int32) = nI 1 from rfl, nI_plus]
  refine g_sld (i + 1) rfl rfl (by rw [hl1, nIc hb]; omega) ?_
  rw [show M1 60 0 (i + 1) = M 60 0 (i + 1) from congrFun (congrFun e1 0) _]
  refine oRun_ok 4 rfl ?_
  rw [show (2 : Int32) = nI 2 from rfl, nI_plus]
  refine g_sld (i + 2) rfl rfl (by rw [hl1, nIc hb]; omega) ?_
  rw [show M1 60 0 (i + 2) = M 60 0 (i + 2) from congrFun (congrFun e1 0) _]
  refine oRun_ok 4 rfl ?_
  rw [show (3 : Int32) = nI 3 from rfl, nI_plus]
  refine g_sld (i + 3) rfl rfl (by rw [hl1, nIc hb]; omega) ?_
  rw [show M1 60 0 (i + 3) = M 60 0 (i + 3) from congrFun (congrFun e1 0) _]
  refine g_callV rfl rfl rfl rfl rfl mok_Mod_move (by decide) (q_move (C := M) (D := M) (M := M1) (M 60 0 (i + 1)) (M 60 0 (i + 2)) (M 60 0 (i + 3)) hI f1.ps) ?_
  rintro r M2 ⟨rfl, i2, f2⟩
  refine g_ic_eq rfl (fun _ => ?_) (fun z => absurd rfl z)
  exact k M2 (lw_in i1 i2 f2) ((lw_s2 f2).trans e1)
set_option maxRecDepth 100000 in
theorem lw_3 {M : oM} {i n : Nat} {Q : Option Int32 → oM → Prop} (hI : oI M M) (hl : M 60 1 0 = nI n) (hi : i + 6 ≤ n) (hb : n < 2147483648) (k : ∀ M2, oI M2 M2 → M2 60 = M 60 → oG k_Law_law 200 1693 [some (.inr (K_SCR, 0)), some (.inr (K_OAK, 0)), some (.inr (K_MOD, 0)), some (.inl (nI i))] [] M2 Q) : oG k_Law_law 200 337 [some (.inr (K_SCR, 0)), some (.inr (K_OAK, 0)), some (.inr (K_MOD, 0)), some (.inl (nI i))] [] M Q := by
  refine oRun_ok 5 rfl ?_
  rw [show (1 : Int32) = nI 1 from rfl, nI_plus]
  refine g_sld (i + 1) rfl rfl (by rw [hl, nIc hb]; omega) ?_
  refine oRun_ok 4 rfl ?_
  rw [show (2 : Int32) = nI 2 from rfl, nI_plus]
  refine g_sld (i + 2) rfl rfl (by rw [hl, nIc hb]; omega) ?_
  refine oRun_ok 4 rfl ?_
  rw [show (3 : Int32) = nI 3 from rfl, nI_plus]
  refine g_sld (i + 3) rfl rfl (by rw [hl, nIc hb]; omega) ?_
  refine g_callV rfl rfl rfl rfl rfl mok_Oak_deed (by decide) (p_deed M M (M 60 0 (i + 1)) (M 60 0 (i + 2)) (M 60 0 (i + 3)) hI) ?_
  rintro r M1 ⟨rfl, i1, f1⟩
  have e1 : M1 60 = M 60 := lw_s1 f1
  have hl1 : M1 60 1 0 = nI n := by rw [e1]; exact hl
  refine oRun_ok 5 rfl ?_
  rw [show (1 : Int32) = nI 1 from rfl, nI_plus]
  refine g_sld (i + 1) rfl rfl (by rw [hl1, nIc hb]; omega) ?_
  rw [show M1 60 0 (i + 1) = M 60 0 (i + 1) from congrFun (congrFun e1 0) _]
  refine oRun_ok 4 rfl ?_
  rw [show (2 : Int32) = nI 2 from rfl, nI_plus]
  refine g_sld (i + 2) rfl rfl (by rw [hl1, nIc hb]; omega) ?_
  rw [show M1 60 0 (i + 2) = M 60 0 (i + 2) from congrFun (congrFun e1 0) _]
  refine oRun_ok 4 rfl ?_
  rw [show (3 : Int32) = nI 3 from rfl, nI_plus]
  refine g_sld (i + 3) rfl rfl (by rw [hl1, nIc hb]; omega) ?_
  rw [show M1 60 0 (i + 3) = M 60 0 (i + 3) from congrFun (congrFun e1 0) _]
  refine g_callV rfl rfl rfl rfl rfl mok_Mod_deed (by decide) (q_deed (C := M) (D := M) (M := M1) (M 60 0 (i + 1)) (M 60 0 (i + 2)) (M 60 0 (i + 3)) hI f1.ps) ?_
  rintro r M2 ⟨rfl, i2, f2⟩
  refine g_ic_eq rfl (fun _ => ?_) (fun z => absurd rfl z)
  exact k M2 (lw_in i1 i2 f2) ((lw_s2 f2).trans e1)
set_option maxRecDepth 100000 in
theorem lw_4 {M : oM} {i n : Nat} {Q : Option Int32 → oM → Prop} (hI : oI M M) (hl : M 60 1 0 = nI n) (hi : i + 6 ≤ n) (hb : n < 2147483648) (k : ∀ M2, oI M2 M2 → M2 60 = M 60 → oG k_Law_law 200 1693 [some (.inr (K_SCR, 0)), some (.inr (K_OAK, 0)), some (.inr (K_MOD, 0)), some (.inl (nI i))] [] M2 Q) : oG k_Law_law 200 380 [some (.inr (K_SCR, 0)), some (.inr (K_OAK, 0)), some (.inr (K_MOD, 0)), some (.inl (nI i))] [] M Q := by
  refine oRun_ok 5 rfl ?_
  rw [show (1 : Int32) = nI 1 from rfl, nI_plus]
  refine g_sld (i + 1) rfl rfl (by rw [hl, nIc hb]; omega) ?_
  refine oRun_ok 4 rfl ?_
  rw [show (2 : Int32) = nI 2 from rfl, nI_plus]
  refine g_sld (i + 2) rfl rfl (by rw [hl, nIc hb]; omega) ?_
  refine g_callV rfl rfl rfl rfl rfl mok_Oak_deedTold (by decide) (p_deedTold M M (M 60 0 (i + 1)) (M 60 0 (i + 2)) hI) ?_
  rintro r M1 ⟨rfl, i1, f1⟩
  have e1 : M1 60 = M 60 := lw_s1 f1
  have hl1 : M1 60 1 0 = nI n := by rw [e1]; exact hl
  refine oRun_ok 5 rfl ?_
  rw [show (1 : Int32) = nI 1 from rfl, nI_plus]
  refine g_sld (i + 1) rfl rfl (by rw [hl1, nIc hb]; omega) ?_
  rw [show M1 60 0 (i + 1) = M 60 0 (i + 1) from congrFun (congrFun e1 0) _]
  refine oRun_ok 4 rfl ?_
  rw [show (2 : Int32) = nI 2 from rfl, nI_plus]
  refine g_sld (i + 2) rfl rfl (by rw [hl1, nIc hb]; omega) ?_
  rw [show M1 60 0 (i + 2) = M 60 0 (i + 2) from congrFun (congrFun e1 0) _]
  refine g_callV rfl rfl rfl rfl rfl mok_Mod_deedTold (by decide) (q_deedTold (C := M) (D := M) (M := M1) (M 60 0 (i + 1)) (M 60 0 (i + 2)) hI f1.ps) ?_
  rintro r M2 ⟨rfl, i2, f2⟩
  refine g_ic_eq rfl (fun _ => ?_) (fun z => absurd rfl z)
  exact k M2 (lw_in i1 i2 f2) ((lw_s2 f2).trans e1)
set_option maxRecDepth 100000 in
theorem lw_5 {M : oM} {i n : Nat} {Q : Option Int32 → oM → Prop} (hI : oI M M) (hl : M 60 1 0 = nI n) (hi : i + 6 ≤ n) (hb : n < 2147483648) (k : ∀ M2, oI M2 M2 → M2 60 = M 60 → oG k_Law_law 200 1693 [some (.inr (K_SCR, 0)), some (.inr (K_OAK, 0)), some (.inr (K_MOD, 0)), some (.inl (nI i))] [] M2 Q) : oG k_Law_law 200 413 [some (.inr (K_SCR, 0)), some (.inr (K_OAK, 0)), some (.inr (K_MOD, 0)), some (.inl (nI i))] [] M Q := by
  refine oRun_ok 5 rfl ?_
  rw [show (1 : Int32) = nI 1 from rfl, nI_plus]
  refine g_sld (i + 1) rfl rfl (by rw [hl, nIc hb]; omega) ?_
  refine oRun_ok 4 rfl ?_
  rw [show (2 : Int32) = nI 2 from rfl, nI_plus]
  refine g_sld (i + 2) rfl rfl (by rw [hl, nIc hb]; omega) ?_
  refine oRun_ok 4 rfl ?_
  rw [show (3 : Int32) = nI 3 from rfl, nI_plus]
  refine g_sld (i + 3) rfl rfl (by rw [hl, nIc hb]; omega) ?_
  refine g_callV rfl rfl rfl rfl rfl mok_Oak_set (by decide) (p_set M M (M 60 0 (i + 1)) (M 60 0 (i + 2)) (M 60 0 (i + 3)) hI) ?_
  rintro r M1 ⟨rfl, i1, f1⟩
  have e1 : M1 60 = M 60 := lw_s1 f1
  have hl1 : M1 60 1 0 = nI n := by rw [e1]; exact hl
  refine oRun_ok 5 rfl ?_
  rw [show (1 : Int32) = nI 1 from rfl, nI_plus]
  refine g_sld (i + 1) rfl rfl (by rw [hl1, nIc hb]; omega) ?_
  rw [show M1 60 0 (i + 1) = M 60 0 (i + 1) from congrFun (congrFun e1 0) _]
  refine oRun_ok 4 rfl ?_
  rw [show (2 : Int32) = nI 2 from rfl, nI_plus]
  refine g_sld (i + 2) rfl rfl (by rw [hl1, nIc hb]; omega) ?_
  rw [show M1 60 0 (i + 2) = M 60 0 (i + 2) from congrFun (congrFun e1 0) _]
  refine oRun_ok 4 rfl ?_
  rw [show (3 : Int32) = nI 3 from rfl, nI_plus]
  refine g_sld (i + 3) rfl rfl (by rw [hl1, nIc hb]; omega) ?_
  rw [show M1 60 0 (i + 3) = M 60 0 (i + 3) from congrFun (congrFun e1 0) _]
  refine g_callV rfl rfl rfl rfl rfl mok_Mod_set (by decide) (q_set (C := M) (D := M) (M := M1) (M 60 0 (i + 1)) (M 60 0 (i + 2)) (M 60 0 (i + 3)) hI f1.ps) ?_
  rintro r M2 ⟨rfl, i2, f2⟩
  refine g_ic_eq rfl (fun _ => ?_) (fun z => absurd rfl z)
  exact k M2 (lw_in i1 i2 f2) ((lw_s2 f2).trans e1)
set_option maxRecDepth 100000 in
theorem lw_6 {M : oM} {i n : Nat} {Q : Option Int32 → oM → Prop} (hI : oI M M) (hl : M 60 1 0 = nI n) (hi : i + 6 ≤ n) (hb : n < 2147483648) (k : ∀ M2, oI M2 M2 → M2 60 = M 60 → oG k_Law_law 200 1693 [some (.inr (K_SCR, 0)), some (.inr (K_OAK, 0)), some (.inr (K_MOD, 0)), some (.inl (nI i))] [] M2 Q) : oG k_Law_law 200 456 [some (.inr (K_SCR, 0)), some (.inr (K_OAK, 0)), some (.inr (K_MOD, 0)), some (.inl (nI i))] [] M Q := by
  refine oRun_ok 5 rfl ?_
  rw [show (1 : Int32) = nI 1 from rfl, nI_plus]
  refine g_sld (i + 1) rfl rfl (by rw [hl, nIc hb]; omega) ?_
  refine oRun_ok 4 rfl ?_
  rw [show (2 : Int32) = nI 2 from rfl, nI_plus]
  refine g_sld (i + 2) rfl rfl (by rw [hl, nIc hb]; omega) ?_
  refine oRun_ok 4 rfl ?_
  rw [show (3 : Int32) = nI 3 from rfl, nI_plus]
  refine g_sld (i + 3) rfl rfl (by rw [hl, nIc hb]; omega) ?_
  refine g_callV rfl rfl rfl rfl rfl mok_Oak_call (by decide) (p_call M M (M 60 0 (i + 1)) (M 60 0 (i + 2)) (M 60 0 (i + 3)) hI) ?_
  rintro r M1 ⟨rfl, i1, f1⟩
  have e1 : M1 60 = M 60 := lw_s1 f1
  have hl1 : M1 60 1 0 = nI n := by rw [e1]; exact hl
  refine oRun_ok 5 rfl ?_
  rw [show (1 : Int32) = nI 1 from rfl, nI_plus]
  refine g_sld (i + 1) rfl rfl (by rw [hl1, nIc hb]; omega) ?_
  rw [show M1 60 0 (i + 1) = M 60 0 (i + 1) from congrFun (congrFun e1 0) _]
  refine oRun_ok 4 rfl ?_
  rw [show (2 : Int32) = nI 2 from rfl, nI_plus]
  refine g_sld (i + 2) rfl rfl (by rw [hl1, nIc hb]; omega) ?_
  rw [show M1 60 0 (i + 2) = M 60 0 (i + 2) from congrFun (congrFun e1 0) _]
  refine oRun_ok 4 rfl ?_
  rw [show (3 : Int32) = nI 3 from rfl, nI_plus]
  refine g_sld (i + 3) rfl rfl (by rw [hl1, nIc hb]; omega) ?_
  rw [show M1 60 0 (i + 3) = M 60 0 (i + 3) from congrFun (congrFun e1 0) _]
  refine g_callV rfl rfl rfl rfl rfl mok_Mod_call (by decide) (q_call (C := M) (D := M) (M := M1) (M 60 0 (i + 1)) (M 60 0 (i + 2)) (M 60 0 (i + 3)) hI f1.ps) ?_
  rintro r M2 ⟨rfl, i2, f2⟩
  refine g_ic_eq rfl (fun _ => ?_) (fun z => absurd rfl z)
  exact k M2 (lw_in i1 i2 f2) ((lw_s2 f2).trans e1)
set_option maxRecDepth 100000 in
theorem lw_7 {M : oM} {i n : Nat} {Q : Option Int32 → oM → Prop} (hI : oI M M) (hl : M 60 1 0 = nI n) (hi : i + 6 ≤ n) (hb : n < 2147483648) (k : ∀ M2, oI M2 M2 → M2 60 = M 60 → oG k_Law_law 200 1693 [some (.inr (K_SCR, 0)), some (.inr (K_OAK, 0)), some (.inr (K_MOD, 0)), some (.inl (nI i))] [] M2 Q) : oG k_Law_law 200 499 [some (.inr (K_SCR, 0)), some (.inr (K_OAK, 0)), some (.inr (K_MOD, 0)), some (.inl (nI i))] [] M Q := by
  refine oRun_ok 5 rfl ?_
  rw [show (1 : Int32) = nI 1 from rfl, nI_plus]
  refine g_sld (i + 1) rfl rfl (by rw [hl, nIc hb]; omega) ?_
  refine oRun_ok 4 rfl ?_
  rw [show (2 : Int32) = nI 2 from rfl, nI_plus]
  refine g_sld (i + 2) rfl rfl (by rw [hl, nIc hb]; omega) ?_
  refine oRun_ok 4 rfl ?_
  rw [show (3 : Int32) = nI 3 from rfl, nI_plus]
  refine g_sld (i + 3) rfl rfl (by rw [hl, nIc hb]; omega) ?_
  refine g_callV rfl rfl rfl rfl rfl mok_Oak_told (by decide) (p_told M M (M 60 0 (i + 1)) (M 60 0 (i + 2)) (M 60 0 (i + 3)) hI) ?_
  rintro r M1 ⟨rfl, i1, f1⟩
  have e1 : M1 60 = M 60 := lw_s1 f1
  have hl1 : M1 60 1 0 = nI n := by rw [e1]; exact hl
  refine oRun_ok 5 rfl ?_
  rw [show (1 : Int32) = nI 1 from rfl, nI_plus]
  refine g_sld (i + 1) rfl rfl (by rw [hl1, nIc hb]; omega) ?_
  rw [show M1 60 0 (i + 1) = M 60 0 (i + 1) from congrFun (congrFun e1 0) _]
  refine oRun_ok 4 rfl ?_
  rw [show (2 : Int32) = nI 2 from rfl, nI_plus]
  refine g_sld (i + 2) rfl rfl (by rw [hl1, nIc hb]; omega) ?_
  rw [show M1 60 0 (i + 2) = M 60 0 (i + 2) from congrFun (congrFun e1 0) _]
  refine oRun_ok 4 rfl ?_
  rw [show (3 : Int32) = nI 3 from rfl, nI_plus]
  refine g_sld (i + 3) rfl rfl (by rw [hl1, nIc hb]; omega) ?_
  rw [show M1 60 0 (i + 3) = M 60 0 (i + 3) from congrFun (congrFun e1 0) _]
  refine g_callV rfl rfl rfl rfl rfl mok_Mod_told (by decide) (q_told (C := M) (D := M) (M := M1) (M 60 0 (i + 1)) (M 60 0 (i + 2)) (M 60 0 (i + 3)) hI f1.ps) ?_
  rintro r M2 ⟨rfl, i2, f2⟩
  refine g_ic_eq rfl (fun _ => ?_) (fun z => absurd rfl z)
  exact k M2 (lw_in i1 i2 f2) ((lw_s2 f2).trans e1)
set_option maxRecDepth 100000 in
theorem lw_8 {M : oM} {i n : Nat} {Q : Option Int32 → oM → Prop} (hI : oI M M) (hl : M 60 1 0 = nI n) (hi : i + 6 ≤ n) (hb : n < 2147483648) (k : ∀ M2, oI M2 M2 → M2 60 = M 60 → oG k_Law_law 200 1693 [some (.inr (K_SCR, 0)), some (.inr (K_OAK, 0)), some (.inr (K_MOD, 0)), some (.inl (nI i))] [] M2 Q) : oG k_Law_law 200 542 [some (.inr (K_SCR, 0)), some (.inr (K_OAK, 0)), some (.inr (K_MOD, 0)), some (.inl (nI i))] [] M Q := by
  refine oRun_ok 5 rfl ?_
  rw [show (1 : Int32) = nI 1 from rfl, nI_plus]
  refine g_sld (i + 1) rfl rfl (by rw [hl, nIc hb]; omega) ?_
  refine oRun_ok 4 rfl ?_
  rw [show (2 : Int32) = nI 2 from rfl, nI_plus]
  refine g_sld (i + 2) rfl rfl (by rw [hl, nIc hb]; omega) ?_
  refine oRun_ok 4 rfl ?_
  rw [show (3 : Int32) = nI 3 from rfl, nI_plus]
  refine g_sld (i + 3) rfl rfl (by rw [hl, nIc hb]; omega) ?_
  refine g_callV rfl rfl rfl rfl rfl mok_Oak_as (by decide) (p_as M M (M 60 0 (i + 1)) (M 60 0 (i + 2)) (M 60 0 (i + 3)) hI) ?_
  rintro r M1 ⟨rfl, i1, f1⟩
  have e1 : M1 60 = M 60 := lw_s1 f1
  have hl1 : M1 60 1 0 = nI n := by rw [e1]; exact hl
  refine oRun_ok 5 rfl ?_
  rw [show (1 : Int32) = nI 1 from rfl, nI_plus]
  refine g_sld (i + 1) rfl rfl (by rw [hl1, nIc hb]; omega) ?_
  rw [show M1 60 0 (i + 1) = M 60 0 (i + 1) from congrFun (congrFun e1 0) _]
  refine oRun_ok 4 rfl ?_
  rw [show (2 : Int32) = nI 2 from rfl, nI_plus]
  refine g_sld (i + 2) rfl rfl (by rw [hl1, nIc hb]; omega) ?_
  rw [show M1 60 0 (i + 2) = M 60 0 (i + 2) from congrFun (congrFun e1 0) _]
  refine oRun_ok 4 rfl ?_
  rw [show (3 : Int32) = nI 3 from rfl, nI_plus]
  refine g_sld (i + 3) rfl rfl (by rw [hl1, nIc hb]; omega) ?_
  rw [show M1 60 0 (i + 3) = M 60 0 (i + 3) from congrFun (congrFun e1 0) _]
  refine g_callV rfl rfl rfl rfl rfl mok_Mod_as (by decide) (q_as (C := M) (D := M) (M := M1) (M 60 0 (i + 1)) (M 60 0 (i + 2)) (M 60 0 (i + 3)) hI f1.ps) ?_
  rintro r M2 ⟨rfl, i2, f2⟩
  refine g_ic_eq rfl (fun _ => ?_) (fun z => absurd rfl z)
  exact k M2 (lw_in i1 i2 f2) ((lw_s2 f2).trans e1)
set_option maxRecDepth 100000 in
theorem lw_9 {M : oM} {i n : Nat} {Q : Option Int32 → oM → Prop} (hI : oI M M) (hl : M 60 1 0 = nI n) (hi : i + 6 ≤ n) (hb : n < 2147483648) (k : ∀ M2, oI M2 M2 → M2 60 = M 60 → oG k_Law_law 200 1693 [some (.inr (K_SCR, 0)), some (.inr (K_OAK, 0)), some (.inr (K_MOD, 0)), some (.inl (nI i))] [] M2 Q) : oG k_Law_law 200 585 [some (.inr (K_SCR, 0)), some (.inr (K_OAK, 0)), some (.inr (K_MOD, 0)), some (.inl (nI i))] [] M Q := by
  refine oRun_ok 5 rfl ?_
  rw [show (1 : Int32) = nI 1 from rfl, nI_plus]
  refine g_sld (i + 1) rfl rfl (by rw [hl, nIc hb]; omega) ?_
  refine oRun_ok 4 rfl ?_
  rw [show (2 : Int32) = nI 2 from rfl, nI_plus]
  refine g_sld (i + 2) rfl rfl (by rw [hl, nIc hb]; omega) ?_
  refine oRun_ok 4 rfl ?_
  rw [show (3 : Int32) = nI 3 from rfl, nI_plus]
  refine g_sld (i + 3) rfl rfl (by rw [hl, nIc hb]; omega) ?_
  refine g_callV rfl rfl rfl rfl rfl mok_Oak_turns (by decide) (p_turns M M (M 60 0 (i + 1)) (M 60 0 (i + 2)) (M 60 0 (i + 3)) hI) ?_
  rintro r M1 ⟨rfl, i1, f1⟩
  have e1 : M1 60 = M 60 := lw_s1 f1
  have hl1 : M1 60 1 0 = nI n := by rw [e1]; exact hl
  refine oRun_ok 5 rfl ?_
  rw [show (1 : Int32) = nI 1 from rfl, nI_plus]
  refine g_sld (i + 1) rfl rfl (by rw [hl1, nIc hb]; omega) ?_
  rw [show M1 60 0 (i + 1) = M 60 0 (i + 1) from congrFun (congrFun e1 0) _]
  refine oRun_ok 4 rfl ?_
  rw [show (2 : Int32) = nI 2 from rfl, nI_plus]
  refine g_sld (i + 2) rfl rfl (by rw [hl1, nIc hb]; omega) ?_
  rw [show M1 60 0 (i + 2) = M 60 0 (i + 2) from congrFun (congrFun e1 0) _]
  refine oRun_ok 4 rfl ?_
  rw [show (3 : Int32) = nI 3 from rfl, nI_plus]
  refine g_sld (i + 3) rfl rfl (by rw [hl1, nIc hb]; omega) ?_
  rw [show M1 60 0 (i + 3) = M 60 0 (i + 3) from congrFun (congrFun e1 0) _]
  refine g_callV rfl rfl rfl rfl rfl mok_Mod_turns (by decide) (q_turns (C := M) (D := M) (M := M1) (M 60 0 (i + 1)) (M 60 0 (i + 2)) (M 60 0 (i + 3)) hI f1.ps) ?_
  rintro r M2 ⟨rfl, i2, f2⟩
  refine g_ic_eq rfl (fun _ => ?_) (fun z => absurd rfl z)
  exact k M2 (lw_in i1 i2 f2) ((lw_s2 f2).trans e1)
set_option maxRecDepth 100000 in
theorem lw_10 {M : oM} {i n : Nat} {Q : Option Int32 → oM → Prop} (hI : oI M M) (hl : M 60 1 0 = nI n) (hi : i + 6 ≤ n) (hb : n < 2147483648) (k : ∀ M2, oI M2 M2 → M2 60 = M 60 → oG k_Law_law 200 1693 [some (.inr (K_SCR, 0)), some (.inr (K_OAK, 0)), some (.inr (K_MOD, 0)), some (.inl (nI i))] [] M2 Q) : oG k_Law_law 200 628 [some (.inr (K_SCR, 0)), some (.inr (K_OAK, 0)), some (.inr (K_MOD, 0)), some (.inl (nI i))] [] M Q := by
  refine oRun_ok 5 rfl ?_
  rw [show (1 : Int32) = nI 1 from rfl, nI_plus]
  refine g_sld (i + 1) rfl rfl (by rw [hl, nIc hb]; omega) ?_
  refine oRun_ok 4 rfl ?_
  rw [show (2 : Int32) = nI 2 from rfl, nI_plus]
  refine g_sld (i + 2) rfl rfl (by rw [hl, nIc hb]; omega) ?_
  refine g_callV rfl rfl rfl rfl rfl mok_Oak_drop (by decide) (p_drop M M (M 60 0 (i + 1)) (M 60 0 (i + 2)) hI) ?_
  rintro r M1 ⟨rfl, i1, f1⟩
  have e1 : M1 60 = M 60 := lw_s1 f1
  have hl1 : M1 60 1 0 = nI n := by rw [e1]; exact hl
  refine oRun_ok 5 rfl ?_
  rw [show (1 : Int32) = nI 1 from rfl, nI_plus]
  refine g_sld (i + 1) rfl rfl (by rw [hl1, nIc hb]; omega) ?_
  rw [show M1 60 0 (i + 1) = M 60 0 (i + 1) from congrFun (congrFun e1 0) _]
  refine oRun_ok 4 rfl ?_
  rw [show (2 : Int32) = nI 2 from rfl, nI_plus]
  refine g_sld (i + 2) rfl rfl (by rw [hl1, nIc hb]; omega) ?_
  rw [show M1 60 0 (i + 2) = M 60 0 (i + 2) from congrFun (congrFun e1 0) _]
  refine g_callV rfl rfl rfl rfl rfl mok_Mod_drop (by decide) (q_drop (C := M) (D := M) (M := M1) (M 60 0 (i + 1)) (M 60 0 (i + 2)) hI f1.ps) ?_
  rintro r M2 ⟨rfl, i2, f2⟩
  refine g_ic_eq rfl (fun _ => ?_) (fun z => absurd rfl z)
  exact k M2 (lw_in i1 i2 f2) ((lw_s2 f2).trans e1)
set_option maxRecDepth 100000 in
theorem lw_11 {M : oM} {i n : Nat} {Q : Option Int32 → oM → Prop} (hI : oI M M) (hl : M 60 1 0 = nI n) (hi : i + 6 ≤ n) (hb : n < 2147483648) (k : ∀ M2, oI M2 M2 → M2 60 = M 60 → oG k_Law_law 200 1693 [some (.inr (K_SCR, 0)), some (.inr (K_OAK, 0)), some (.inr (K_MOD, 0)), some (.inl (nI i))] [] M2 Q) : oG k_Law_law 200 661 [some (.inr (K_SCR, 0)), some (.inr (K_OAK, 0)), some (.inr (K_MOD, 0)), some (.inl (nI i))] [] M Q := by
  refine oRun_ok 5 rfl ?_
  rw [show (1 : Int32) = nI 1 from rfl, nI_plus]
  refine g_sld (i + 1) rfl rfl (by rw [hl, nIc hb]; omega) ?_
  refine oRun_ok 4 rfl ?_
  rw [show (2 : Int32) = nI 2 from rfl, nI_plus]
  refine g_sld (i + 2) rfl rfl (by rw [hl, nIc hb]; omega) ?_
  refine g_callV rfl rfl rfl rfl rfl mok_Oak_deal (by decide) (p_deal M M (M 60 0 (i + 1)) (M 60 0 (i + 2)) hI) ?_
  rintro r M1 ⟨rfl, i1, f1⟩
  have e1 : M1 60 = M 60 := lw_s1 f1
  have hl1 : M1 60 1 0 = nI n := by rw [e1]; exact hl
  refine oRun_ok 5 rfl ?_
  rw [show (1 : Int32) = nI 1 from rfl, nI_plus]
  refine g_sld (i + 1) rfl rfl (by rw [hl1, nIc hb]; omega) ?_
  rw [show M1 60 0 (i + 1) = M 60 0 (i + 1) from congrFun (congrFun e1 0) _]
  refine oRun_ok 4 rfl ?_
  rw [show (2 : Int32) = nI 2 from rfl, nI_plus]
  refine g_sld (i + 2) rfl rfl (by rw [hl1, nIc hb]; omega) ?_
  rw [show M1 60 0 (i + 2) = M 60 0 (i + 2) from congrFun (congrFun e1 0) _]
  refine g_callV rfl rfl rfl rfl rfl mok_Mod_deal (by decide) (q_deal (C := M) (D := M) (M := M1) (M 60 0 (i + 1)) (M 60 0 (i + 2)) hI f1.ps) ?_
  rintro r M2 ⟨rfl, i2, f2⟩
  refine g_ic_eq rfl (fun _ => ?_) (fun z => absurd rfl z)
  exact k M2 (lw_in i1 i2 f2) ((lw_s2 f2).trans e1)
set_option maxRecDepth 100000 in
theorem lw_12 {M : oM} {i n : Nat} {Q : Option Int32 → oM → Prop} (hI : oI M M) (hl : M 60 1 0 = nI n) (hi : i + 6 ≤ n) (hb : n < 2147483648) (k : ∀ M2, oI M2 M2 → M2 60 = M 60 → oG k_Law_law 200 1693 [some (.inr (K_SCR, 0)), some (.inr (K_OAK, 0)), some (.inr (K_MOD, 0)), some (.inl (nI i))] [] M2 Q) : oG k_Law_law 200 694 [some (.inr (K_SCR, 0)), some (.inr (K_OAK, 0)), some (.inr (K_MOD, 0)), some (.inl (nI i))] [] M Q := by
  refine oRun_ok 5 rfl ?_
  rw [show (1 : Int32) = nI 1 from rfl, nI_plus]
  refine g_sld (i + 1) rfl rfl (by rw [hl, nIc hb]; omega) ?_
  refine g_callV rfl rfl rfl rfl rfl mok_Oak_seed (by decide) (p_seed M M (M 60 0 (i + 1)) hI) ?_
  rintro r M1 ⟨rfl, i1, f1⟩
  have e1 : M1 60 = M 60 := lw_s1 f1
  have hl1 : M1 60 1 0 = nI n := by rw [e1]; exact hl
  refine oRun_ok 5 rfl ?_
  rw [show (1 : Int32) = nI 1 from rfl, nI_plus]
  refine g_sld (i + 1) rfl rfl (by rw [hl1, nIc hb]; omega) ?_
  rw [show M1 60 0 (i + 1) = M 60 0 (i + 1) from congrFun (congrFun e1 0) _]
  refine g_callV rfl rfl rfl rfl rfl mok_Mod_seed (by decide) (q_seed (C := M) (D := M) (M := M1) (M 60 0 (i + 1)) hI f1.ps) ?_
  rintro r M2 ⟨rfl, i2, f2⟩
  refine g_ic_eq rfl (fun _ => ?_) (fun z => absurd rfl z)
  exact k M2 (lw_in i1 i2 f2) ((lw_s2 f2).trans e1)
set_option maxRecDepth 100000 in
theorem lw_13 {M : oM} {i n : Nat} {Q : Option Int32 → oM → Prop} (hI : oI M M) (hl : M 60 1 0 = nI n) (hi : i + 6 ≤ n) (hb : n < 2147483648) (k : ∀ M2, oI M2 M2 → M2 60 = M 60 → oG k_Law_law 200 1693 [some (.inr (K_SCR, 0)), some (.inr (K_OAK, 0)), some (.inr (K_MOD, 0)), some (.inl (nI i))] [] M2 Q) : oG k_Law_law 200 717 [some (.inr (K_SCR, 0)), some (.inr (K_OAK, 0)), some (.inr (K_MOD, 0)), some (.inl (nI i))] [] M Q := by
  refine oRun_ok 5 rfl ?_
  rw [show (1 : Int32) = nI 1 from rfl, nI_plus]
  refine g_sld (i + 1) rfl rfl (by rw [hl, nIc hb]; omega) ?_
  refine oRun_ok 4 rfl ?_
  rw [show (2 : Int32) = nI 2 from rfl, nI_plus]
  refine g_sld (i + 2) rfl rfl (by rw [hl, nIc hb]; omega) ?_
  refine oRun_ok 4 rfl ?_
  rw [show (3 : Int32) = nI 3 from rfl, nI_plus]
  refine g_sld (i + 3) rfl rfl (by rw [hl, nIc hb]; omega) ?_
  refine g_callV rfl rfl rfl rfl rfl mok_Oak_corner (by decide) (p_corner M M (M 60 0 (i + 1)) (M 60 0 (i + 2)) (M 60 0 (i + 3)) hI) ?_
  rintro r M1 ⟨rfl, i1, f1⟩
  have e1 : M1 60 = M 60 := lw_s1 f1
  have hl1 : M1 60 1 0 = nI n := by rw [e1]; exact hl
  refine oRun_ok 5 rfl ?_
  rw [show (1 : Int32) = nI 1 from rfl, nI_plus]
  refine g_sld (i + 1) rfl rfl (by rw [hl1, nIc hb]; omega) ?_
  rw [show M1 60 0 (i + 1) = M 60 0 (i + 1) from congrFun (congrFun e1 0) _]
  refine oRun_ok 4 rfl ?_
  rw [show (2 : Int32) = nI 2 from rfl, nI_plus]
  refine g_sld (i + 2) rfl rfl (by rw [hl1, nIc hb]; omega) ?_
  rw [show M1 60 0 (i + 2) = M 60 0 (i + 2) from congrFun (congrFun e1 0) _]
  refine oRun_ok 4 rfl ?_
  rw [show (3 : Int32) = nI 3 from rfl, nI_plus]
  refine g_sld (i + 3) rfl rfl (by rw [hl1, nIc hb]; omega) ?_
  rw [show M1 60 0 (i + 3) = M 60 0 (i + 3) from congrFun (congrFun e1 0) _]
  refine g_callV rfl rfl rfl rfl rfl mok_Mod_corner (by decide) (q_corner (C := M) (D := M) (M := M1) (M 60 0 (i + 1)) (M 60 0 (i + 2)) (M 60 0 (i + 3)) hI f1.ps) ?_
  rintro r M2 ⟨rfl, i2, f2⟩
  refine g_ic_eq rfl (fun _ => ?_) (fun z => absurd rfl z)
  exact k M2 (lw_in i1 i2 f2) ((lw_s2 f2).trans e1)
set_option maxRecDepth 100000 in
theorem lw_14 {M : oM} {i n : Nat} {Q : Option Int32 → oM → Prop} (hI : oI M M) (hl : M 60 1 0 = nI n) (hi : i + 6 ≤ n) (hb : n < 2147483648) (k : ∀ M2, oI M2 M2 → M2 60 = M 60 → oG k_Law_law 200 1693 [some (.inr (K_SCR, 0)), some (.inr (K_OAK, 0)), some (.inr (K_MOD, 0)), some (.inl (nI i))] [] M2 Q) : oG k_Law_law 200 760 [some (.inr (K_SCR, 0)), some (.inr (K_OAK, 0)), some (.inr (K_MOD, 0)), some (.inl (nI i))] [] M Q := by
  refine oRun_ok 5 rfl ?_
  rw [show (1 : Int32) = nI 1 from rfl, nI_plus]
  refine g_sld (i + 1) rfl rfl (by rw [hl, nIc hb]; omega) ?_
  refine g_callV rfl rfl rfl rfl rfl mok_Oak_gap (by decide) (p_gap M M (M 60 0 (i + 1)) hI) ?_
  rintro r M1 ⟨rfl, i1, f1⟩
  have e1 : M1 60 = M 60 := lw_s1 f1
  have hl1 : M1 60 1 0 = nI n := by rw [e1]; exact hl
  refine oRun_ok 5 rfl ?_
  rw [show (1 : Int32) = nI 1 from rfl, nI_plus]
  refine g_sld (i + 1) rfl rfl (by rw [hl1, nIc hb]; omega) ?_
  rw [show M1 60 0 (i + 1) = M 60 0 (i + 1) from congrFun (congrFun e1 0) _]
  refine g_callV rfl rfl rfl rfl rfl mok_Mod_gap (by decide) (q_gap (C := M) (D := M) (M := M1) (M 60 0 (i + 1)) hI f1.ps) ?_
  rintro r M2 ⟨rfl, i2, f2⟩
  refine g_ic_eq rfl (fun _ => ?_) (fun z => absurd rfl z)
  exact k M2 (lw_in i1 i2 f2) ((lw_s2 f2).trans e1)
set_option maxRecDepth 100000 in
theorem lw_15 {M : oM} {i n : Nat} {Q : Option Int32 → oM → Prop} (hI : oI M M) (hl : M 60 1 0 = nI n) (hi : i + 6 ≤ n) (hb : n < 2147483648) (k : ∀ M2, oI M2 M2 → M2 60 = M 60 → oG k_Law_law 200 1693 [some (.inr (K_SCR, 0)), some (.inr (K_OAK, 0)), some (.inr (K_MOD, 0)), some (.inl (nI i))] [] M2 Q) : oG k_Law_law 200 783 [some (.inr (K_SCR, 0)), some (.inr (K_OAK, 0)), some (.inr (K_MOD, 0)), some (.inl (nI i))] [] M Q := by
  refine oRun_ok 5 rfl ?_
  rw [show (1 : Int32) = nI 1 from rfl, nI_plus]
  refine g_sld (i + 1) rfl rfl (by rw [hl, nIc hb]; omega) ?_
  refine g_callV rfl rfl rfl rfl rfl mok_Oak_area (by decide) (p_area M M (M 60 0 (i + 1)) hI) ?_
  rintro r M1 ⟨rfl, i1, f1⟩
  have e1 : M1 60 = M 60 := lw_s1 f1
  have hl1 : M1 60 1 0 = nI n := by rw [e1]; exact hl
  refine oRun_ok 5 rfl ?_
  rw [show (1 : Int32) = nI 1 from rfl, nI_plus]
  refine g_sld (i + 1) rfl rfl (by rw [hl1, nIc hb]; omega) ?_
  rw [show M1 60 0 (i + 1) = M 60 0 (i + 1) from congrFun (congrFun e1 0) _]
  refine g_callV rfl rfl rfl rfl rfl mok_Mod_area (by decide) (q_area (C := M) (D := M) (M := M1) (M 60 0 (i + 1)) hI f1.ps) ?_
  rintro r M2 ⟨rfl, i2, f2⟩
  refine g_ic_eq rfl (fun _ => ?_) (fun z => absurd rfl z)
  exact k M2 (lw_in i1 i2 f2) ((lw_s2 f2).trans e1)
set_option maxRecDepth 100000 in
theorem lw_16 {M : oM} {i n : Nat} {Q : Option Int32 → oM → Prop} (hI : oI M M) (hl : M 60 1 0 = nI n) (hi : i + 6 ≤ n) (hb : n < 2147483648) (k : ∀ M2, oI M2 M2 → M2 60 = M 60 → oG k_Law_law 200 1693 [some (.inr (K_SCR, 0)), some (.inr (K_OAK, 0)), some (.inr (K_MOD, 0)), some (.inl (nI i))] [] M2 Q) : oG k_Law_law 200 806 [some (.inr (K_SCR, 0)), some (.inr (K_OAK, 0)), some (.inr (K_MOD, 0)), some (.inl (nI i))] [] M Q := by
  refine oRun_ok 5 rfl ?_
  rw [show (1 : Int32) = nI 1 from rfl, nI_plus]
  refine g_sld (i + 1) rfl rfl (by rw [hl, nIc hb]; omega) ?_
  refine oRun_ok 4 rfl ?_
  rw [show (2 : Int32) = nI 2 from rfl, nI_plus]
  refine g_sld (i + 2) rfl rfl (by rw [hl, nIc hb]; omega) ?_
  refine g_callV rfl rfl rfl rfl rfl mok_Oak_holds (by decide) (p_holds M M (M 60 0 (i + 1)) (M 60 0 (i + 2)) hI) ?_
  rintro r M1 ⟨rfl, i1, f1⟩
  have e1 : M1 60 = M 60 := lw_s1 f1
  have hl1 : M1 60 1 0 = nI n := by rw [e1]; exact hl
  refine oRun_ok 5 rfl ?_
  rw [show (1 : Int32) = nI 1 from rfl, nI_plus]
  refine g_sld (i + 1) rfl rfl (by rw [hl1, nIc hb]; omega) ?_
  rw [show M1 60 0 (i + 1) = M 60 0 (i + 1) from congrFun (congrFun e1 0) _]
  refine oRun_ok 4 rfl ?_
  rw [show (2 : Int32) = nI 2 from rfl, nI_plus]
  refine g_sld (i + 2) rfl rfl (by rw [hl1, nIc hb]; omega) ?_
  rw [show M1 60 0 (i + 2) = M 60 0 (i + 2) from congrFun (congrFun e1 0) _]
  refine g_callV rfl rfl rfl rfl rfl mok_Mod_holds (by decide) (q_holds (C := M) (D := M) (M := M1) (M 60 0 (i + 1)) (M 60 0 (i + 2)) hI f1.ps) ?_
  rintro r M2 ⟨rfl, i2, f2⟩
  refine g_ic_eq rfl (fun _ => ?_) (fun z => absurd rfl z)
  exact k M2 (lw_in i1 i2 f2) ((lw_s2 f2).trans e1)
set_option maxRecDepth 100000 in
theorem lw_17 {M : oM} {i n : Nat} {Q : Option Int32 → oM → Prop} (hI : oI M M) (hl : M 60 1 0 = nI n) (hi : i + 6 ≤ n) (hb : n < 2147483648) (k : ∀ M2, oI M2 M2 → M2 60 = M 60 → oG k_Law_law 200 1693 [some (.inr (K_SCR, 0)), some (.inr (K_OAK, 0)), some (.inr (K_MOD, 0)), some (.inl (nI i))] [] M2 Q) : oG k_Law_law 200 839 [some (.inr (K_SCR, 0)), some (.inr (K_OAK, 0)), some (.inr (K_MOD, 0)), some (.inl (nI i))] [] M Q := by
  refine oRun_ok 5 rfl ?_
  rw [show (1 : Int32) = nI 1 from rfl, nI_plus]
  refine g_sld (i + 1) rfl rfl (by rw [hl, nIc hb]; omega) ?_
  refine g_callV rfl rfl rfl rfl rfl mok_Oak_field (by decide) (p_field M M (M 60 0 (i + 1)) hI) ?_
  rintro r M1 ⟨rfl, i1, f1⟩
  have e1 : M1 60 = M 60 := lw_s1 f1
  have hl1 : M1 60 1 0 = nI n := by rw [e1]; exact hl
  refine oRun_ok 5 rfl ?_
  rw [show (1 : Int32) = nI 1 from rfl, nI_plus]
  refine g_sld (i + 1) rfl rfl (by rw [hl1, nIc hb]; omega) ?_
  rw [show M1 60 0 (i + 1) = M 60 0 (i + 1) from congrFun (congrFun e1 0) _]
  refine g_callV rfl rfl rfl rfl rfl mok_Mod_field (by decide) (q_field (C := M) (D := M) (M := M1) (M 60 0 (i + 1)) hI f1.ps) ?_
  rintro r M2 ⟨rfl, i2, f2⟩
  refine g_ic_eq rfl (fun _ => ?_) (fun z => absurd rfl z)
  exact k M2 (lw_in i1 i2 f2) ((lw_s2 f2).trans e1)
set_option maxRecDepth 100000 in
theorem lw_18 {M : oM} {i n : Nat} {Q : Option Int32 → oM → Prop} (hI : oI M M) (hl : M 60 1 0 = nI n) (hi : i + 6 ≤ n) (hb : n < 2147483648) (k : ∀ M2, oI M2 M2 → M2 60 = M 60 → oG k_Law_law 200 1693 [some (.inr (K_SCR, 0)), some (.inr (K_OAK, 0)), some (.inr (K_MOD, 0)), some (.inl (nI i))] [] M2 Q) : oG k_Law_law 200 862 [some (.inr (K_SCR, 0)), some (.inr (K_OAK, 0)), some (.inr (K_MOD, 0)), some (.inl (nI i))] [] M Q := by
  refine oRun_ok 5 rfl ?_
  rw [show (1 : Int32) = nI 1 from rfl, nI_plus]
  refine g_sld (i + 1) rfl rfl (by rw [hl, nIc hb]; omega) ?_
  refine oRun_ok 4 rfl ?_
  rw [show (2 : Int32) = nI 2 from rfl, nI_plus]
  refine g_sld (i + 2) rfl rfl (by rw [hl, nIc hb]; omega) ?_
  refine g_callV rfl rfl rfl rfl rfl mok_Oak_over (by decide) (p_over M M (M 60 0 (i + 1)) (M 60 0 (i + 2)) hI) ?_
  rintro r M1 ⟨rfl, i1, f1⟩
  have e1 : M1 60 = M 60 := lw_s1 f1
  have hl1 : M1 60 1 0 = nI n := by rw [e1]; exact hl
  refine oRun_ok 5 rfl ?_
  rw [show (1 : Int32) = nI 1 from rfl, nI_plus]
  refine g_sld (i + 1) rfl rfl (by rw [hl1, nIc hb]; omega) ?_
  rw [show M1 60 0 (i + 1) = M 60 0 (i + 1) from congrFun (congrFun e1 0) _]
  refine oRun_ok 4 rfl ?_
  rw [show (2 : Int32) = nI 2 from rfl, nI_plus]
  refine g_sld (i + 2) rfl rfl (by rw [hl1, nIc hb]; omega) ?_
  rw [show M1 60 0 (i + 2) = M 60 0 (i + 2) from congrFun (congrFun e1 0) _]
  refine g_callV rfl rfl rfl rfl rfl mok_Mod_over (by decide) (q_over (C := M) (D := M) (M := M1) (M 60 0 (i + 1)) (M 60 0 (i + 2)) hI f1.ps) ?_
  rintro r M2 ⟨rfl, i2, f2⟩
  refine g_ic_eq rfl (fun _ => ?_) (fun z => absurd rfl z)
  exact k M2 (lw_in i1 i2 f2) ((lw_s2 f2).trans e1)
set_option maxRecDepth 100000 in
theorem lw_19 {M : oM} {i n : Nat} {Q : Option Int32 → oM → Prop} (hI : oI M M) (hl : M 60 1 0 = nI n) (hi : i + 6 ≤ n) (hb : n < 2147483648) (k : ∀ M2, oI M2 M2 → M2 60 = M 60 → oG k_Law_law 200 1693 [some (.inr (K_SCR, 0)), some (.inr (K_OAK, 0)), some (.inr (K_MOD, 0)), some (.inl (nI i))] [] M2 Q) : oG k_Law_law 200 895 [some (.inr (K_SCR, 0)), some (.inr (K_OAK, 0)), some (.inr (K_MOD, 0)), some (.inl (nI i))] [] M Q := by
  refine oRun_ok 5 rfl ?_
  rw [show (1 : Int32) = nI 1 from rfl, nI_plus]
  refine g_sld (i + 1) rfl rfl (by rw [hl, nIc hb]; omega) ?_
  refine g_callV rfl rfl rfl rfl rfl mok_Oak_whose (by decide) (p_whose M M (M 60 0 (i + 1)) hI) ?_
  rintro r M1 ⟨rfl, i1, f1⟩
  have e1 : M1 60 = M 60 := lw_s1 f1
  have hl1 : M1 60 1 0 = nI n := by rw [e1]; exact hl
  refine oRun_ok 5 rfl ?_
  rw [show (1 : Int32) = nI 1 from rfl, nI_plus]
  refine g_sld (i + 1) rfl rfl (by rw [hl1, nIc hb]; omega) ?_
  rw [show M1 60 0 (i + 1) = M 60 0 (i + 1) from congrFun (congrFun e1 0) _]
  refine g_callV rfl rfl rfl rfl rfl mok_Mod_whose (by decide) (q_whose (C := M) (D := M) (M := M1) (M 60 0 (i + 1)) hI f1.ps) ?_
  rintro r M2 ⟨rfl, i2, f2⟩
  refine g_ic_eq rfl (fun _ => ?_) (fun z => absurd rfl z)
  exact k M2 (lw_in i1 i2 f2) ((lw_s2 f2).trans e1)
set_option maxRecDepth 100000 in
theorem lw_20 {M : oM} {i n : Nat} {Q : Option Int32 → oM → Prop} (hI : oI M M) (hl : M 60 1 0 = nI n) (hi : i + 6 ≤ n) (hb : n < 2147483648) (k : ∀ M2, oI M2 M2 → M2 60 = M 60 → oG k_Law_law 200 1693 [some (.inr (K_SCR, 0)), some (.inr (K_OAK, 0)), some (.inr (K_MOD, 0)), some (.inl (nI i))] [] M2 Q) : oG k_Law_law 200 918 [some (.inr (K_SCR, 0)), some (.inr (K_OAK, 0)), some (.inr (K_MOD, 0)), some (.inl (nI i))] [] M Q := by
  refine oRun_ok 5 rfl ?_
  rw [show (1 : Int32) = nI 1 from rfl, nI_plus]
  refine g_sld (i + 1) rfl rfl (by rw [hl, nIc hb]; omega) ?_
  refine g_callV rfl rfl rfl rfl rfl mok_Oak_owned (by decide) (p_owned M M (M 60 0 (i + 1)) hI) ?_
  rintro r M1 ⟨rfl, i1, f1⟩
  have e1 : M1 60 = M 60 := lw_s1 f1
  have hl1 : M1 60 1 0 = nI n := by rw [e1]; exact hl
  refine oRun_ok 5 rfl ?_
  rw [show (1 : Int32) = nI 1 from rfl, nI_plus]
  refine g_sld (i + 1) rfl rfl (by rw [hl1, nIc hb]; omega) ?_
  rw [show M1 60 0 (i + 1) = M 60 0 (i + 1) from congrFun (congrFun e1 0) _]
  refine g_callV rfl rfl rfl rfl rfl mok_Mod_owned (by decide) (q_owned (C := M) (D := M) (M := M1) (M 60 0 (i + 1)) hI f1.ps) ?_
  rintro r M2 ⟨rfl, i2, f2⟩
  refine g_ic_eq rfl (fun _ => ?_) (fun z => absurd rfl z)
  exact k M2 (lw_in i1 i2 f2) ((lw_s2 f2).trans e1)
set_option maxRecDepth 100000 in
theorem lw_21 {M : oM} {i n : Nat} {Q : Option Int32 → oM → Prop} (hI : oI M M) (hl : M 60 1 0 = nI n) (hi : i + 6 ≤ n) (hb : n < 2147483648) (k : ∀ M2, oI M2 M2 → M2 60 = M 60 → oG k_Law_law 200 1693 [some (.inr (K_SCR, 0)), some (.inr (K_OAK, 0)), some (.inr (K_MOD, 0)), some (.inl (nI i))] [] M2 Q) : oG k_Law_law 200 941 [some (.inr (K_SCR, 0)), some (.inr (K_OAK, 0)), some (.inr (K_MOD, 0)), some (.inl (nI i))] [] M Q := by
  refine oRun_ok 5 rfl ?_
  rw [show (1 : Int32) = nI 1 from rfl, nI_plus]
  refine g_sld (i + 1) rfl rfl (by rw [hl, nIc hb]; omega) ?_
  refine oRun_ok 4 rfl ?_
  rw [show (2 : Int32) = nI 2 from rfl, nI_plus]
  refine g_sld (i + 2) rfl rfl (by rw [hl, nIc hb]; omega) ?_
  refine g_callV rfl rfl rfl rfl rfl mok_Oak_slip (by decide) (p_slip M M (M 60 0 (i + 1)) (M 60 0 (i + 2)) hI) ?_
  rintro r M1 ⟨rfl, i1, f1⟩
  have e1 : M1 60 = M 60 := lw_s1 f1
  have hl1 : M1 60 1 0 = nI n := by rw [e1]; exact hl
  refine oRun_ok 5 rfl ?_
  rw [show (1 : Int32) = nI 1 from rfl, nI_plus]
  refine g_sld (i + 1) rfl rfl (by rw [hl1, nIc hb]; omega) ?_
  rw [show M1 60 0 (i + 1) = M 60 0 (i + 1) from congrFun (congrFun e1 0) _]
  refine oRun_ok 4 rfl ?_
  rw [show (2 : Int32) = nI 2 from rfl, nI_plus]
  refine g_sld (i + 2) rfl rfl (by rw [hl1, nIc hb]; omega) ?_
  rw [show M1 60 0 (i + 2) = M 60 0 (i + 2) from congrFun (congrFun e1 0) _]
  refine g_callV rfl rfl rfl rfl rfl mok_Mod_slip (by decide) (q_slip (C := M) (D := M) (M := M1) (M 60 0 (i + 1)) (M 60 0 (i + 2)) hI f1.ps) ?_
  rintro r M2 ⟨rfl, i2, f2⟩
  refine g_ic_eq rfl (fun _ => ?_) (fun z => absurd rfl z)
  exact k M2 (lw_in i1 i2 f2) ((lw_s2 f2).trans e1)
set_option maxRecDepth 100000 in
theorem lw_22 {M : oM} {i n : Nat} {Q : Option Int32 → oM → Prop} (hI : oI M M) (hl : M 60 1 0 = nI n) (hi : i + 6 ≤ n) (hb : n < 2147483648) (k : ∀ M2, oI M2 M2 → M2 60 = M 60 → oG k_Law_law 200 1693 [some (.inr (K_SCR, 0)), some (.inr (K_OAK, 0)), some (.inr (K_MOD, 0)), some (.inl (nI i))] [] M2 Q) : oG k_Law_law 200 974 [some (.inr (K_SCR, 0)), some (.inr (K_OAK, 0)), some (.inr (K_MOD, 0)), some (.inl (nI i))] [] M Q := by
  refine oRun_ok 5 rfl ?_
  rw [show (1 : Int32) = nI 1 from rfl, nI_plus]
  refine g_sld (i + 1) rfl rfl (by rw [hl, nIc hb]; omega) ?_
  refine oRun_ok 4 rfl ?_
  rw [show (2 : Int32) = nI 2 from rfl, nI_plus]
  refine g_sld (i + 2) rfl rfl (by rw [hl, nIc hb]; omega) ?_
  refine g_callV rfl rfl rfl rfl rfl mok_Oak_best (by decide) (p_best M M (M 60 0 (i + 1)) (M 60 0 (i + 2)) hI) ?_
  rintro r M1 ⟨rfl, i1, f1⟩
  have e1 : M1 60 = M 60 := lw_s1 f1
  have hl1 : M1 60 1 0 = nI n := by rw [e1]; exact hl
  refine oRun_ok 5 rfl ?_
  rw [show (1 : Int32) = nI 1 from rfl, nI_plus]
  refine g_sld (i + 1) rfl rfl (by rw [hl1, nIc hb]; omega) ?_
  rw [show M1 60 0 (i + 1) = M 60 0 (i + 1) from congrFun (congrFun e1 0) _]
  refine oRun_ok 4 rfl ?_
  rw [show (2 : Int32) = nI 2 from rfl, nI_plus]
  refine g_sld (i + 2) rfl rfl (by rw [hl1, nIc hb]; omega) ?_
  rw [show M1 60 0 (i + 2) = M 60 0 (i + 2) from congrFun (congrFun e1 0) _]
  refine g_callV rfl rfl rfl rfl rfl mok_Mod_best (by decide) (q_best (C := M) (D := M) (M := M1) (M 60 0 (i + 1)) (M 60 0 (i + 2)) hI f1.ps) ?_
  rintro r M2 ⟨rfl, i2, f2⟩
  refine g_ic_eq rfl (fun _ => ?_) (fun z => absurd rfl z)
  exact k M2 (lw_in i1 i2 f2) ((lw_s2 f2).trans e1)
