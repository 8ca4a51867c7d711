set_option maxRecDepth 100000 in
theorem lw_23 {M : oM} {i n : Nat} {Q : Option Int32 → oM → Prop} (hI : oI M M) (hl : M 60 1 0 = nI n) (hi : i + 6 ≤ n) (hb : n < 2147483648) (k : ∀ M2, oI M2 M2 → M2 60 = M 60 → oG k_Law_law 200 1693 [some (.inr (K_SCR, 0)), some (.inr (K_OAK, 0)), some (.inr (K_MOD, 0)), some (.inl (nI i))] [] M2 Q) : oG k_Law_law 200 1007 [some (.inr (K_SCR, 0)), some (.inr (K_OAK, 0)), some (.inr (K_MOD, 0)), some (.inl (nI i))] [] M Q := by
  refine oRun_ok 5 rfl ?_
  rw [show (1 : Int32) = nI 1 from rfl, nI_plus]
  refine g_sld (i + 1) rfl rfl (by rw [hl, nIc hb]; omega) ?_
  refine g_callV rfl rfl rfl rfl rfl mok_Oak_learn (by decide) (p_learn M M (M 60 0 (i + 1)) hI) ?_
  rintro r M1 ⟨rfl, i1, f1⟩
  have e1 : M1 60 = M 60 := lw_s1 f1
  have hl1 : M1 60 1 0 = nI n := by rw [e1]; exact hl
  refine oRun_ok 5 rfl ?_
  rw [show (1 : Int32) = nI 1 from rfl, nI_plus]
  refine g_sld (i + 1) rfl rfl (by rw [hl1, nIc hb]; omega) ?_
  rw [show M1 60 0 (i + 1) = M 60 0 (i + 1) from congrFun (congrFun e1 0) _]
  refine g_callV rfl rfl rfl rfl rfl mok_Mod_learn (by decide) (q_learn (C := M) (D := M) (M := M1) (M 60 0 (i + 1)) hI f1.ps) ?_
  rintro r M2 ⟨rfl, i2, f2⟩
  refine g_ic_eq rfl (fun _ => ?_) (fun z => absurd rfl z)
  exact k M2 (lw_in i1 i2 f2) ((lw_s2 f2).trans e1)
set_option maxRecDepth 100000 in
theorem lw_24 {M : oM} {i n : Nat} {Q : Option Int32 → oM → Prop} (hI : oI M M) (hl : M 60 1 0 = nI n) (hi : i + 6 ≤ n) (hb : n < 2147483648) (k : ∀ M2, oI M2 M2 → M2 60 = M 60 → oG k_Law_law 200 1693 [some (.inr (K_SCR, 0)), some (.inr (K_OAK, 0)), some (.inr (K_MOD, 0)), some (.inl (nI i))] [] M2 Q) : oG k_Law_law 200 1030 [some (.inr (K_SCR, 0)), some (.inr (K_OAK, 0)), some (.inr (K_MOD, 0)), some (.inl (nI i))] [] M Q := by
  refine oRun_ok 5 rfl ?_
  rw [show (1 : Int32) = nI 1 from rfl, nI_plus]
  refine g_sld (i + 1) rfl rfl (by rw [hl, nIc hb]; omega) ?_
  refine oRun_ok 4 rfl ?_
  rw [show (2 : Int32) = nI 2 from rfl, nI_plus]
  refine g_sld (i + 2) rfl rfl (by rw [hl, nIc hb]; omega) ?_
  refine g_callV rfl rfl rfl rfl rfl mok_Oak_near (by decide) (p_near M M (M 60 0 (i + 1)) (M 60 0 (i + 2)) hI) ?_
  rintro r M1 ⟨rfl, i1, f1⟩
  have e1 : M1 60 = M 60 := lw_s1 f1
  have hl1 : M1 60 1 0 = nI n := by rw [e1]; exact hl
  refine oRun_ok 5 rfl ?_
  rw [show (1 : Int32) = nI 1 from rfl, nI_plus]
  refine g_sld (i + 1) rfl rfl (by rw [hl1, nIc hb]; omega) ?_
  rw [show M1 60 0 (i + 1) = M 60 0 (i + 1) from congrFun (congrFun e1 0) _]
  refine oRun_ok 4 rfl ?_
  rw [show (2 : Int32) = nI 2 from rfl, nI_plus]
  refine g_sld (i + 2) rfl rfl (by rw [hl1, nIc hb]; omega) ?_
  rw [show M1 60 0 (i + 2) = M 60 0 (i + 2) from congrFun (congrFun e1 0) _]
  refine g_callV rfl rfl rfl rfl rfl mok_Mod_near (by decide) (q_near (C := M) (D := M) (M := M1) (M 60 0 (i + 1)) (M 60 0 (i + 2)) hI f1.ps) ?_
  rintro r M2 ⟨rfl, i2, f2⟩
  refine g_ic_eq rfl (fun _ => ?_) (fun z => absurd rfl z)
  exact k M2 (lw_in i1 i2 f2) ((lw_s2 f2).trans e1)
set_option maxRecDepth 100000 in
theorem lw_25 {M : oM} {i n : Nat} {Q : Option Int32 → oM → Prop} (hI : oI M M) (hl : M 60 1 0 = nI n) (hi : i + 6 ≤ n) (hb : n < 2147483648) (k : ∀ M2, oI M2 M2 → M2 60 = M 60 → oG k_Law_law 200 1693 [some (.inr (K_SCR, 0)), some (.inr (K_OAK, 0)), some (.inr (K_MOD, 0)), some (.inl (nI i))] [] M2 Q) : oG k_Law_law 200 1063 [some (.inr (K_SCR, 0)), some (.inr (K_OAK, 0)), some (.inr (K_MOD, 0)), some (.inl (nI i))] [] M Q := by
  refine oRun_ok 5 rfl ?_
  rw [show (1 : Int32) = nI 1 from rfl, nI_plus]
  refine g_sld (i + 1) rfl rfl (by rw [hl, nIc hb]; omega) ?_
  refine oRun_ok 4 rfl ?_
  rw [show (2 : Int32) = nI 2 from rfl, nI_plus]
  refine g_sld (i + 2) rfl rfl (by rw [hl, nIc hb]; omega) ?_
  refine oRun_ok 4 rfl ?_
  rw [show (3 : Int32) = nI 3 from rfl, nI_plus]
  refine g_sld (i + 3) rfl rfl (by rw [hl, nIc hb]; omega) ?_
  refine g_callV rfl rfl rfl rfl rfl mok_Oak_would (by decide) (p_would M M (M 60 0 (i + 1)) (M 60 0 (i + 2)) (M 60 0 (i + 3)) hI) ?_
  rintro r M1 ⟨rfl, i1, f1⟩
  have e1 : M1 60 = M 60 := lw_s1 f1
  have hl1 : M1 60 1 0 = nI n := by rw [e1]; exact hl
  refine oRun_ok 5 rfl ?_
  rw [show (1 : Int32) = nI 1 from rfl, nI_plus]
  refine g_sld (i + 1) rfl rfl (by rw [hl1, nIc hb]; omega) ?_
  rw [show M1 60 0 (i + 1) = M 60 0 (i + 1) from congrFun (congrFun e1 0) _]
  refine oRun_ok 4 rfl ?_
  rw [show (2 : Int32) = nI 2 from rfl, nI_plus]
  refine g_sld (i + 2) rfl rfl (by rw [hl1, nIc hb]; omega) ?_
  rw [show M1 60 0 (i + 2) = M 60 0 (i + 2) from congrFun (congrFun e1 0) _]
  refine oRun_ok 4 rfl ?_
  rw [show (3 : Int32) = nI 3 from rfl, nI_plus]
  refine g_sld (i + 3) rfl rfl (by rw [hl1, nIc hb]; omega) ?_
  rw [show M1 60 0 (i + 3) = M 60 0 (i + 3) from congrFun (congrFun e1 0) _]
  refine g_callV rfl rfl rfl rfl rfl mok_Mod_would (by decide) (q_would (C := M) (D := M) (M := M1) (M 60 0 (i + 1)) (M 60 0 (i + 2)) (M 60 0 (i + 3)) hI f1.ps) ?_
  rintro r M2 ⟨rfl, i2, f2⟩
  refine g_ic_eq rfl (fun _ => ?_) (fun z => absurd rfl z)
  exact k M2 (lw_in i1 i2 f2) ((lw_s2 f2).trans e1)
set_option maxRecDepth 100000 in
theorem lw_26 {M : oM} {i n : Nat} {Q : Option Int32 → oM → Prop} (hI : oI M M) (hl : M 60 1 0 = nI n) (hi : i + 6 ≤ n) (hb : n < 2147483648) (k : ∀ M2, oI M2 M2 → M2 60 = M 60 → oG k_Law_law 200 1693 [some (.inr (K_SCR, 0)), some (.inr (K_OAK, 0)), some (.inr (K_MOD, 0)), some (.inl (nI i))] [] M2 Q) : oG k_Law_law 200 1106 [some (.inr (K_SCR, 0)), some (.inr (K_OAK, 0)), some (.inr (K_MOD, 0)), some (.inl (nI i))] [] M Q := by
  refine oRun_ok 5 rfl ?_
  rw [show (1 : Int32) = nI 1 from rfl, nI_plus]
  refine g_sld (i + 1) rfl rfl (by rw [hl, nIc hb]; omega) ?_
  refine oRun_ok 4 rfl ?_
  rw [show (2 : Int32) = nI 2 from rfl, nI_plus]
  refine g_sld (i + 2) rfl rfl (by rw [hl, nIc hb]; omega) ?_
  refine oRun_ok 4 rfl ?_
  rw [show (3 : Int32) = nI 3 from rfl, nI_plus]
  refine g_sld (i + 3) rfl rfl (by rw [hl, nIc hb]; omega) ?_
  refine g_callV rfl rfl rfl rfl rfl mok_Oak_feed (by decide) (p_feed M M (M 60 0 (i + 1)) (M 60 0 (i + 2)) (M 60 0 (i + 3)) hI) ?_
  rintro r M1 ⟨rfl, i1, f1⟩
  have e1 : M1 60 = M 60 := lw_s1 f1
  have hl1 : M1 60 1 0 = nI n := by rw [e1]; exact hl
  refine oRun_ok 5 rfl ?_
  rw [show (1 : Int32) = nI 1 from rfl, nI_plus]
  refine g_sld (i + 1) rfl rfl (by rw [hl1, nIc hb]; omega) ?_
  rw [show M1 60 0 (i + 1) = M 60 0 (i + 1) from congrFun (congrFun e1 0) _]
  refine oRun_ok 4 rfl ?_
  rw [show (2 : Int32) = nI 2 from rfl, nI_plus]
  refine g_sld (i + 2) rfl rfl (by rw [hl1, nIc hb]; omega) ?_
  rw [show M1 60 0 (i + 2) = M 60 0 (i + 2) from congrFun (congrFun e1 0) _]
  refine oRun_ok 4 rfl ?_
  rw [show (3 : Int32) = nI 3 from rfl, nI_plus]
  refine g_sld (i + 3) rfl rfl (by rw [hl1, nIc hb]; omega) ?_
  rw [show M1 60 0 (i + 3) = M 60 0 (i + 3) from congrFun (congrFun e1 0) _]
  refine g_callV rfl rfl rfl rfl rfl mok_Mod_feed (by decide) (q_feed (C := M) (D := M) (M := M1) (M 60 0 (i + 1)) (M 60 0 (i + 2)) (M 60 0 (i + 3)) hI f1.ps) ?_
  rintro r M2 ⟨rfl, i2, f2⟩
  refine g_ic_eq rfl (fun _ => ?_) (fun z => absurd rfl z)
  exact k M2 (lw_in i1 i2 f2) ((lw_s2 f2).trans e1)
set_option maxRecDepth 100000 in
theorem lw_27 {M : oM} {i n : Nat} {Q : Option Int32 → oM → Prop} (hI : oI M M) (hl : M 60 1 0 = nI n) (hi : i + 6 ≤ n) (hb : n < 2147483648) (k : ∀ M2, oI M2 M2 → M2 60 = M 60 → oG k_Law_law 200 1693 [some (.inr (K_SCR, 0)), some (.inr (K_OAK, 0)), some (.inr (K_MOD, 0)), some (.inl (nI i))] [] M2 Q) : oG k_Law_law 200 1149 [some (.inr (K_SCR, 0)), some (.inr (K_OAK, 0)), some (.inr (K_MOD, 0)), some (.inl (nI i))] [] M Q := by
  refine oRun_ok 5 rfl ?_
  rw [show (1 : Int32) = nI 1 from rfl, nI_plus]
  refine g_sld (i + 1) rfl rfl (by rw [hl, nIc hb]; omega) ?_
  refine g_callV rfl rfl rfl rfl rfl mok_Oak_trim (by decide) (p_trim M M (M 60 0 (i + 1)) hI) ?_
  rintro r M1 ⟨rfl, i1, f1⟩
  have e1 : M1 60 = M 60 := lw_s1 f1
  have hl1 : M1 60 1 0 = nI n := by rw [e1]; exact hl
  refine oRun_ok 5 rfl ?_
  rw [show (1 : Int32) = nI 1 from rfl, nI_plus]
  refine g_sld (i + 1) rfl rfl (by rw [hl1, nIc hb]; omega) ?_
  rw [show M1 60 0 (i + 1) = M 60 0 (i + 1) from congrFun (congrFun e1 0) _]
  refine g_callV rfl rfl rfl rfl rfl mok_Mod_trim (by decide) (q_trim (C := M) (D := M) (M := M1) (M 60 0 (i + 1)) hI f1.ps) ?_
  rintro r M2 ⟨rfl, i2, f2⟩
  refine g_ic_eq rfl (fun _ => ?_) (fun z => absurd rfl z)
  exact k M2 (lw_in i1 i2 f2) ((lw_s2 f2).trans e1)
set_option maxRecDepth 100000 in
theorem lw_28 {M : oM} {i n : Nat} {Q : Option Int32 → oM → Prop} (hI : oI M M) (hl : M 60 1 0 = nI n) (hi : i + 6 ≤ n) (hb : n < 2147483648) (k : ∀ M2, oI M2 M2 → M2 60 = M 60 → oG k_Law_law 200 1693 [some (.inr (K_SCR, 0)), some (.inr (K_OAK, 0)), some (.inr (K_MOD, 0)), some (.inl (nI i))] [] M2 Q) : oG k_Law_law 200 1172 [some (.inr (K_SCR, 0)), some (.inr (K_OAK, 0)), some (.inr (K_MOD, 0)), some (.inl (nI i))] [] M Q := by
  refine oRun_ok 1 rfl ?_
  refine g_callV rfl rfl rfl rfl rfl mok_Oak_text (by decide) (p_text M M  hI) ?_
  rintro r M1 ⟨rfl, i1, f1⟩
  have e1 : M1 60 = M 60 := lw_s1 f1
  have hl1 : M1 60 1 0 = nI n := by rw [e1]; exact hl
  refine oRun_ok 1 rfl ?_
  refine g_callV rfl rfl rfl rfl rfl mok_Mod_text (by decide) (q_text (C := M) (D := M) (M := M1)  hI f1.ps) ?_
  rintro r M2 ⟨rfl, i2, f2⟩
  refine g_ic_eq rfl (fun _ => ?_) (fun z => absurd rfl z)
  exact k M2 (lw_in i1 i2 f2) ((lw_s2 f2).trans e1)
set_option maxRecDepth 100000 in
theorem lw_29 {M : oM} {i n : Nat} {Q : Option Int32 → oM → Prop} (hI : oI M M) (hl : M 60 1 0 = nI n) (hi : i + 6 ≤ n) (hb : n < 2147483648) (k : ∀ M2, oI M2 M2 → M2 60 = M 60 → oG k_Law_law 200 1693 [some (.inr (K_SCR, 0)), some (.inr (K_OAK, 0)), some (.inr (K_MOD, 0)), some (.inl (nI i))] [] M2 Q) : oG k_Law_law 200 1185 [some (.inr (K_SCR, 0)), some (.inr (K_OAK, 0)), some (.inr (K_MOD, 0)), some (.inl (nI i))] [] M Q := by
  refine oRun_ok 5 rfl ?_
  rw [show (1 : Int32) = nI 1 from rfl, nI_plus]
  refine g_sld (i + 1) rfl rfl (by rw [hl, nIc hb]; omega) ?_
  refine oRun_ok 4 rfl ?_
  rw [show (2 : Int32) = nI 2 from rfl, nI_plus]
  refine g_sld (i + 2) rfl rfl (by rw [hl, nIc hb]; omega) ?_
  refine g_callV rfl rfl rfl rfl rfl mok_Oak_textTold (by decide) (p_textTold M M (M 60 0 (i + 1)) (M 60 0 (i + 2)) hI) ?_
  rintro r M1 ⟨rfl, i1, f1⟩
  have e1 : M1 60 = M 60 := lw_s1 f1
  have hl1 : M1 60 1 0 = nI n := by rw [e1]; exact hl
  refine oRun_ok 5 rfl ?_
  rw [show (1 : Int32) = nI 1 from rfl, nI_plus]
  refine g_sld (i + 1) rfl rfl (by rw [hl1, nIc hb]; omega) ?_
  rw [show M1 60 0 (i + 1) = M 60 0 (i + 1) from congrFun (congrFun e1 0) _]
  refine oRun_ok 4 rfl ?_
  rw [show (2 : Int32) = nI 2 from rfl, nI_plus]
  refine g_sld (i + 2) rfl rfl (by rw [hl1, nIc hb]; omega) ?_
  rw [show M1 60 0 (i + 2) = M 60 0 (i + 2) from congrFun (congrFun e1 0) _]
  refine g_callV rfl rfl rfl rfl rfl mok_Mod_textTold (by decide) (q_textTold (C := M) (D := M) (M := M1) (M 60 0 (i + 1)) (M 60 0 (i + 2)) hI f1.ps) ?_
  rintro r M2 ⟨rfl, i2, f2⟩
  refine g_ic_eq rfl (fun _ => ?_) (fun z => absurd rfl z)
  exact k M2 (lw_in i1 i2 f2) ((lw_s2 f2).trans e1)
set_option maxRecDepth 100000 in
theorem lw_30 {M : oM} {i n : Nat} {Q : Option Int32 → oM → Prop} (hI : oI M M) (hl : M 60 1 0 = nI n) (hi : i + 6 ≤ n) (hb : n < 2147483648) (k : ∀ M2, oI M2 M2 → M2 60 = M 60 → oG k_Law_law 200 1693 [some (.inr (K_SCR, 0)), some (.inr (K_OAK, 0)), some (.inr (K_MOD, 0)), some (.inl (nI i))] [] M2 Q) : oG k_Law_law 200 1218 [some (.inr (K_SCR, 0)), some (.inr (K_OAK, 0)), some (.inr (K_MOD, 0)), some (.inl (nI i))] [] M Q := by
  refine oRun_ok 5 rfl ?_
  rw [show (1 : Int32) = nI 1 from rfl, nI_plus]
  refine g_sld (i + 1) rfl rfl (by rw [hl, nIc hb]; omega) ?_
  refine g_callV rfl rfl rfl rfl rfl mok_Oak_why (by decide) (p_why M M (M 60 0 (i + 1)) hI) ?_
  rintro r M1 ⟨rfl, i1, f1⟩
  have e1 : M1 60 = M 60 := lw_s1 f1
  have hl1 : M1 60 1 0 = nI n := by rw [e1]; exact hl
  refine oRun_ok 5 rfl ?_
  rw [show (1 : Int32) = nI 1 from rfl, nI_plus]
  refine g_sld (i + 1) rfl rfl (by rw [hl1, nIc hb]; omega) ?_
  rw [show M1 60 0 (i + 1) = M 60 0 (i + 1) from congrFun (congrFun e1 0) _]
  refine g_callV rfl rfl rfl rfl rfl mok_Mod_why (by decide) (q_why (C := M) (D := M) (M := M1) (M 60 0 (i + 1)) hI f1.ps) ?_
  rintro r M2 ⟨rfl, i2, f2⟩
  refine g_ic_eq rfl (fun _ => ?_) (fun z => absurd rfl z)
  exact k M2 (lw_in i1 i2 f2) ((lw_s2 f2).trans e1)
set_option maxRecDepth 100000 in
theorem lw_31 {M : oM} {i n : Nat} {Q : Option Int32 → oM → Prop} (hI : oI M M) (hl : M 60 1 0 = nI n) (hi : i + 6 ≤ n) (hb : n < 2147483648) (k : ∀ M2, oI M2 M2 → M2 60 = M 60 → oG k_Law_law 200 1693 [some (.inr (K_SCR, 0)), some (.inr (K_OAK, 0)), some (.inr (K_MOD, 0)), some (.inl (nI i))] [] M2 Q) : oG k_Law_law 200 1241 [some (.inr (K_SCR, 0)), some (.inr (K_OAK, 0)), some (.inr (K_MOD, 0)), some (.inl (nI i))] [] M Q := by
  refine oRun_ok 5 rfl ?_
  rw [show (1 : Int32) = nI 1 from rfl, nI_plus]
  refine g_sld (i + 1) rfl rfl (by rw [hl, nIc hb]; omega) ?_
  refine oRun_ok 4 rfl ?_
  rw [show (2 : Int32) = nI 2 from rfl, nI_plus]
  refine g_sld (i + 2) rfl rfl (by rw [hl, nIc hb]; omega) ?_
  refine oRun_ok 4 rfl ?_
  rw [show (3 : Int32) = nI 3 from rfl, nI_plus]
  refine g_sld (i + 3) rfl rfl (by rw [hl, nIc hb]; omega) ?_
  refine g_callV rfl rfl rfl rfl rfl mok_Oak_sheet (by decide) (p_sheet M M (M 60 0 (i + 1)) (M 60 0 (i + 2)) (M 60 0 (i + 3)) hI) ?_
  rintro r M1 ⟨rfl, i1, f1⟩
  have e1 : M1 60 = M 60 := lw_s1 f1
  have hl1 : M1 60 1 0 = nI n := by rw [e1]; exact hl
  refine oRun_ok 5 rfl ?_
  rw [show (1 : Int32) = nI 1 from rfl, nI_plus]
  refine g_sld (i + 1) rfl rfl (by rw [hl1, nIc hb]; omega) ?_
  rw [show M1 60 0 (i + 1) = M 60 0 (i + 1) from congrFun (congrFun e1 0) _]
  refine oRun_ok 4 rfl ?_
  rw [show (2 : Int32) = nI 2 from rfl, nI_plus]
  refine g_sld (i + 2) rfl rfl (by rw [hl1, nIc hb]; omega) ?_
  rw [show M1 60 0 (i + 2) = M 60 0 (i + 2) from congrFun (congrFun e1 0) _]
  refine oRun_ok 4 rfl ?_
  rw [show (3 : Int32) = nI 3 from rfl, nI_plus]
  refine g_sld (i + 3) rfl rfl (by rw [hl1, nIc hb]; omega) ?_
  rw [show M1 60 0 (i + 3) = M 60 0 (i + 3) from congrFun (congrFun e1 0) _]
  refine g_callV rfl rfl rfl rfl rfl mok_Mod_sheet (by decide) (q_sheet (C := M) (D := M) (M := M1) (M 60 0 (i + 1)) (M 60 0 (i + 2)) (M 60 0 (i + 3)) hI f1.ps) ?_
  rintro r M2 ⟨rfl, i2, f2⟩
  refine g_ic_eq rfl (fun _ => ?_) (fun z => absurd rfl z)
  exact k M2 (lw_in i1 i2 f2) ((lw_s2 f2).trans e1)
set_option maxRecDepth 100000 in
theorem lw_32 {M : oM} {i n : Nat} {Q : Option Int32 → oM → Prop} (hI : oI M M) (hl : M 60 1 0 = nI n) (hi : i + 6 ≤ n) (hb : n < 2147483648) (k : ∀ M2, oI M2 M2 → M2 60 = M 60 → oG k_Law_law 200 1693 [some (.inr (K_SCR, 0)), some (.inr (K_OAK, 0)), some (.inr (K_MOD, 0)), some (.inl (nI i))] [] M2 Q) : oG k_Law_law 200 1284 [some (.inr (K_SCR, 0)), some (.inr (K_OAK, 0)), some (.inr (K_MOD, 0)), some (.inl (nI i))] [] M Q := by
  refine oRun_ok 5 rfl ?_
  rw [show (1 : Int32) = nI 1 from rfl, nI_plus]
  refine g_sld (i + 1) rfl rfl (by rw [hl, nIc hb]; omega) ?_
  refine oRun_ok 4 rfl ?_
  rw [show (2 : Int32) = nI 2 from rfl, nI_plus]
  refine g_sld (i + 2) rfl rfl (by rw [hl, nIc hb]; omega) ?_
  refine oRun_ok 4 rfl ?_
  rw [show (3 : Int32) = nI 3 from rfl, nI_plus]
  refine g_sld (i + 3) rfl rfl (by rw [hl, nIc hb]; omega) ?_
  refine g_callV rfl rfl rfl rfl rfl mok_Oak_mark (by decide) (p_mark M M (M 60 0 (i + 1)) (M 60 0 (i + 2)) (M 60 0 (i + 3)) hI) ?_
  rintro r M1 ⟨rfl, i1, f1⟩
  have e1 : M1 60 = M 60 := lw_s1 f1
  have hl1 : M1 60 1 0 = nI n := by rw [e1]; exact hl
  refine oRun_ok 5 rfl ?_
  rw [show (1 : Int32) = nI 1 from rfl, nI_plus]
  refine g_sld (i + 1) rfl rfl (by rw [hl1, nIc hb]; omega) ?_
  rw [show M1 60 0 (i + 1) = M 60 0 (i + 1) from congrFun (congrFun e1 0) _]
  refine oRun_ok 4 rfl ?_
  rw [show (2 : Int32) = nI 2 from rfl, nI_plus]
  refine g_sld (i + 2) rfl rfl (by rw [hl1, nIc hb]; omega) ?_
  rw [show M1 60 0 (i + 2) = M 60 0 (i + 2) from congrFun (congrFun e1 0) _]
  refine oRun_ok 4 rfl ?_
  rw [show (3 : Int32) = nI 3 from rfl, nI_plus]
  refine g_sld (i + 3) rfl rfl (by rw [hl1, nIc hb]; omega) ?_
  rw [show M1 60 0 (i + 3) = M 60 0 (i + 3) from congrFun (congrFun e1 0) _]
  refine g_callV rfl rfl rfl rfl rfl mok_Mod_mark (by decide) (q_mark (C := M) (D := M) (M := M1) (M 60 0 (i + 1)) (M 60 0 (i + 2)) (M 60 0 (i + 3)) hI f1.ps) ?_
  rintro r M2 ⟨rfl, i2, f2⟩
  refine g_ic_eq rfl (fun _ => ?_) (fun z => absurd rfl z)
  exact k M2 (lw_in i1 i2 f2) ((lw_s2 f2).trans e1)
set_option maxRecDepth 100000 in
theorem lw_33 {M : oM} {i n : Nat} {Q : Option Int32 → oM → Prop} (hI : oI M M) (hl : M 60 1 0 = nI n) (hi : i + 6 ≤ n) (hb : n < 2147483648) (k : ∀ M2, oI M2 M2 → M2 60 = M 60 → oG k_Law_law 200 1693 [some (.inr (K_SCR, 0)), some (.inr (K_OAK, 0)), some (.inr (K_MOD, 0)), some (.inl (nI i))] [] M2 Q) : oG k_Law_law 200 1327 [some (.inr (K_SCR, 0)), some (.inr (K_OAK, 0)), some (.inr (K_MOD, 0)), some (.inl (nI i))] [] M Q := by
  refine oRun_ok 5 rfl ?_
  rw [show (1 : Int32) = nI 1 from rfl, nI_plus]
  refine g_sld (i + 1) rfl rfl (by rw [hl, nIc hb]; omega) ?_
  refine oRun_ok 4 rfl ?_
  rw [show (2 : Int32) = nI 2 from rfl, nI_plus]
  refine g_sld (i + 2) rfl rfl (by rw [hl, nIc hb]; omega) ?_
  refine g_callV rfl rfl rfl rfl rfl mok_Oak_pour (by decide) (p_pour M M (M 60 0 (i + 1)) (M 60 0 (i + 2)) hI) ?_
  rintro r M1 ⟨rfl, i1, f1⟩
  have e1 : M1 60 = M 60 := lw_s1 f1
  have hl1 : M1 60 1 0 = nI n := by rw [e1]; exact hl
  refine oRun_ok 5 rfl ?_
  rw [show (1 : Int32) = nI 1 from rfl, nI_plus]
  refine g_sld (i + 1) rfl rfl (by rw [hl1, nIc hb]; omega) ?_
  rw [show M1 60 0 (i + 1) = M 60 0 (i + 1) from congrFun (congrFun e1 0) _]
  refine oRun_ok 4 rfl ?_
  rw [show (2 : Int32) = nI 2 from rfl, nI_plus]
  refine g_sld (i + 2) rfl rfl (by rw [hl1, nIc hb]; omega) ?_
  rw [show M1 60 0 (i + 2) = M 60 0 (i + 2) from congrFun (congrFun e1 0) _]
  refine g_callV rfl rfl rfl rfl rfl mok_Mod_pour (by decide) (q_pour (C := M) (D := M) (M := M1) (M 60 0 (i + 1)) (M 60 0 (i + 2)) hI f1.ps) ?_
  rintro r M2 ⟨rfl, i2, f2⟩
  refine g_ic_eq rfl (fun _ => ?_) (fun z => absurd rfl z)
  exact k M2 (lw_in i1 i2 f2) ((lw_s2 f2).trans e1)
set_option maxRecDepth 100000 in
theorem lw_34 {M : oM} {i n : Nat} {Q : Option Int32 → oM → Prop} (hI : oI M M) (hl : M 60 1 0 = nI n) (hi : i + 6 ≤ n) (hb : n < 2147483648) (k : ∀ M2, oI M2 M2 → M2 60 = M 60 → oG k_Law_law 200 1693 [some (.inr (K_SCR, 0)), some (.inr (K_OAK, 0)), some (.inr (K_MOD, 0)), some (.inl (nI i))] [] M2 Q) : oG k_Law_law 200 1360 [some (.inr (K_SCR, 0)), some (.inr (K_OAK, 0)), some (.inr (K_MOD, 0)), some (.inl (nI i))] [] M Q := by
  refine oRun_ok 5 rfl ?_
  rw [show (1 : Int32) = nI 1 from rfl, nI_plus]
  refine g_sld (i + 1) rfl rfl (by rw [hl, nIc hb]; omega) ?_
  refine oRun_ok 4 rfl ?_
  rw [show (2 : Int32) = nI 2 from rfl, nI_plus]
  refine g_sld (i + 2) rfl rfl (by rw [hl, nIc hb]; omega) ?_
  refine g_callV rfl rfl rfl rfl rfl mok_Oak_reads (by decide) (p_reads M M (M 60 0 (i + 1)) (M 60 0 (i + 2)) hI) ?_
  rintro r M1 ⟨rfl, i1, f1⟩
  have e1 : M1 60 = M 60 := lw_s1 f1
  have hl1 : M1 60 1 0 = nI n := by rw [e1]; exact hl
  refine oRun_ok 5 rfl ?_
  rw [show (1 : Int32) = nI 1 from rfl, nI_plus]
  refine g_sld (i + 1) rfl rfl (by rw [hl1, nIc hb]; omega) ?_
  rw [show M1 60 0 (i + 1) = M 60 0 (i + 1) from congrFun (congrFun e1 0) _]
  refine oRun_ok 4 rfl ?_
  rw [show (2 : Int32) = nI 2 from rfl, nI_plus]
  refine g_sld (i + 2) rfl rfl (by rw [hl1, nIc hb]; omega) ?_
  rw [show M1 60 0 (i + 2) = M 60 0 (i + 2) from congrFun (congrFun e1 0) _]
  refine g_callV rfl rfl rfl rfl rfl mok_Mod_reads (by decide) (q_reads (C := M) (D := M) (M := M1) (M 60 0 (i + 1)) (M 60 0 (i + 2)) hI f1.ps) ?_
  rintro r M2 ⟨rfl, i2, f2⟩
  refine g_ic_eq rfl (fun _ => ?_) (fun z => absurd rfl z)
  exact k M2 (lw_in i1 i2 f2) ((lw_s2 f2).trans e1)
set_option maxRecDepth 100000 in
theorem lw_35 {M : oM} {i n : Nat} {Q : Option Int32 → oM → Prop} (hI : oI M M) (hl : M 60 1 0 = nI n) (hi : i + 6 ≤ n) (hb : n < 2147483648) (k : ∀ M2, oI M2 M2 → M2 60 = M 60 → oG k_Law_law 200 1693 [some (.inr (K_SCR, 0)), some (.inr (K_OAK, 0)), some (.inr (K_MOD, 0)), some (.inl (nI i))] [] M2 Q) : oG k_Law_law 200 1393 [some (.inr (K_SCR, 0)), some (.inr (K_OAK, 0)), some (.inr (K_MOD, 0)), some (.inl (nI i))] [] M Q := by
  refine oRun_ok 5 rfl ?_
  rw [show (1 : Int32) = nI 1 from rfl, nI_plus]
  refine g_sld (i + 1) rfl rfl (by rw [hl, nIc hb]; omega) ?_
  refine oRun_ok 4 rfl ?_
  rw [show (2 : Int32) = nI 2 from rfl, nI_plus]
  refine g_sld (i + 2) rfl rfl (by rw [hl, nIc hb]; omega) ?_
  refine oRun_ok 4 rfl ?_
  rw [show (3 : Int32) = nI 3 from rfl, nI_plus]
  refine g_sld (i + 3) rfl rfl (by rw [hl, nIc hb]; omega) ?_
  refine oRun_ok 4 rfl ?_
  rw [show (4 : Int32) = nI 4 from rfl, nI_plus]
  refine g_sld (i + 4) rfl rfl (by rw [hl, nIc hb]; omega) ?_
  refine oRun_ok 4 rfl ?_
  rw [show (5 : Int32) = nI 5 from rfl, nI_plus]
  refine g_sld (i + 5) rfl rfl (by rw [hl, nIc hb]; omega) ?_
  refine g_callV rfl rfl rfl rfl rfl mok_Oak_copy (by decide) (p_copy M M (M 60 0 (i + 1)) (M 60 0 (i + 2)) (M 60 0 (i + 3)) (M 60 0 (i + 4)) (M 60 0 (i + 5)) hI) ?_
  rintro r M1 ⟨rfl, i1, f1⟩
  have e1 : M1 60 = M 60 := lw_s1 f1
  have hl1 : M1 60 1 0 = nI n := by rw [e1]; exact hl
  refine oRun_ok 5 rfl ?_
  rw [show (1 : Int32) = nI 1 from rfl, nI_plus]
  refine g_sld (i + 1) rfl rfl (by rw [hl1, nIc hb]; omega) ?_
  rw [show M1 60 0 (i + 1) = M 60 0 (i + 1) from congrFun (congrFun e1 0) _]
  refine oRun_ok 4 rfl ?_
  rw [show (2 : Int32) = nI 2 from rfl, nI_plus]
  refine g_sld (i + 2) rfl rfl (by rw [hl1, nIc hb]; omega) ?_
  rw [show M1 60 0 (i + 2) = M 60 0 (i + 2) from congrFun (congrFun e1 0) _]
  refine oRun_ok 4 rfl ?_
  rw [show (3 : Int32) = nI 3 from rfl, nI_plus]
  refine g_sld (i + 3) rfl rfl (by rw [hl1, nIc hb]; omega) ?_
  rw [show M1 60 0 (i + 3) = M 60 0 (i + 3) from congrFun (congrFun e1 0) _]
  refine oRun_ok 4 rfl ?_
  rw [show (4 : Int32) = nI 4 from rfl, nI_plus]
  refine g_sld (i + 4) rfl rfl (by rw [hl1, nIc hb]; omega) ?_
  rw [show M1 60 0 (i + 4) = M 60 0 (i + 4) from congrFun (congrFun e1 0) _]
  refine oRun_ok 4 rfl ?_
  rw [show (5 : Int32) = nI 5 from rfl, nI_plus]
  refine g_sld (i + 5) rfl rfl (by rw [hl1, nIc hb]; omega) ?_
  rw [show M1 60 0 (i + 5) = M 60 0 (i + 5) from congrFun (congrFun e1 0) _]
  refine g_callV rfl rfl rfl rfl rfl mok_Mod_copy (by decide) (q_copy (C := M) (D := M) (M := M1) (M 60 0 (i + 1)) (M 60 0 (i + 2)) (M 60 0 (i + 3)) (M 60 0 (i + 4)) (M 60 0 (i + 5)) hI f1.ps) ?_
  rintro r M2 ⟨rfl, i2, f2⟩
  refine g_ic_eq rfl (fun _ => ?_) (fun z => absurd rfl z)
  exact k M2 (lw_in i1 i2 f2) ((lw_s2 f2).trans e1)
set_option maxRecDepth 100000 in
theorem lw_36 {M : oM} {i n : Nat} {Q : Option Int32 → oM → Prop} (hI : oI M M) (hl : M 60 1 0 = nI n) (hi : i + 6 ≤ n) (hb : n < 2147483648) (k : ∀ M2, oI M2 M2 → M2 60 = M 60 → oG k_Law_law 200 1693 [some (.inr (K_SCR, 0)), some (.inr (K_OAK, 0)), some (.inr (K_MOD, 0)), some (.inl (nI i))] [] M2 Q) : oG k_Law_law 200 1456 [some (.inr (K_SCR, 0)), some (.inr (K_OAK, 0)), some (.inr (K_MOD, 0)), some (.inl (nI i))] [] M Q := by
  refine oRun_ok 5 rfl ?_
  rw [show (1 : Int32) = nI 1 from rfl, nI_plus]
  refine g_sld (i + 1) rfl rfl (by rw [hl, nIc hb]; omega) ?_
  refine oRun_ok 4 rfl ?_
  rw [show (2 : Int32) = nI 2 from rfl, nI_plus]
  refine g_sld (i + 2) rfl rfl (by rw [hl, nIc hb]; omega) ?_
  refine oRun_ok 4 rfl ?_
  rw [show (3 : Int32) = nI 3 from rfl, nI_plus]
  refine g_sld (i + 3) rfl rfl (by rw [hl, nIc hb]; omega) ?_
  refine g_callV rfl rfl rfl rfl rfl mok_Oak_lay (by decide) (p_lay M M (M 60 0 (i + 1)) (M 60 0 (i + 2)) (M 60 0 (i + 3)) hI) ?_
  rintro r M1 ⟨rfl, i1, f1⟩
  have e1 : M1 60 = M 60 := lw_s1 f1
  have hl1 : M1 60 1 0 = nI n := by rw [e1]; exact hl
  refine oRun_ok 5 rfl ?_
  rw [show (1 : Int32) = nI 1 from rfl, nI_plus]
  refine g_sld (i + 1) rfl rfl (by rw [hl1, nIc hb]; omega) ?_
  rw [show M1 60 0 (i + 1) = M 60 0 (i + 1) from congrFun (congrFun e1 0) _]
  refine oRun_ok 4 rfl ?_
  rw [show (2 : Int32) = nI 2 from rfl, nI_plus]
  refine g_sld (i + 2) rfl rfl (by rw [hl1, nIc hb]; omega) ?_
  rw [show M1 60 0 (i + 2) = M 60 0 (i + 2) from congrFun (congrFun e1 0) _]
  refine oRun_ok 4 rfl ?_
  rw [show (3 : Int32) = nI 3 from rfl, nI_plus]
  refine g_sld (i + 3) rfl rfl (by rw [hl1, nIc hb]; omega) ?_
  rw [show M1 60 0 (i + 3) = M 60 0 (i + 3) from congrFun (congrFun e1 0) _]
  refine g_callV rfl rfl rfl rfl rfl mok_Mod_lay (by decide) (q_lay (C := M) (D := M) (M := M1) (M 60 0 (i + 1)) (M 60 0 (i + 2)) (M 60 0 (i + 3)) hI f1.ps) ?_
  rintro r M2 ⟨rfl, i2, f2⟩
  refine g_ic_eq rfl (fun _ => ?_) (fun z => absurd rfl z)
  exact k M2 (lw_in i1 i2 f2) ((lw_s2 f2).trans e1)
set_option maxRecDepth 100000 in
theorem lw_37 {M : oM} {i n : Nat} {Q : Option Int32 → oM → Prop} (hI : oI M M) (hl : M 60 1 0 = nI n) (hi : i + 6 ≤ n) (hb : n < 2147483648) (k : ∀ M2, oI M2 M2 → M2 60 = M 60 → oG k_Law_law 200 1693 [some (.inr (K_SCR, 0)), some (.inr (K_OAK, 0)), some (.inr (K_MOD, 0)), some (.inl (nI i))] [] M2 Q) : oG k_Law_law 200 1499 [some (.inr (K_SCR, 0)), some (.inr (K_OAK, 0)), some (.inr (K_MOD, 0)), some (.inl (nI i))] [] M Q := by
  refine oRun_ok 5 rfl ?_
  rw [show (1 : Int32) = nI 1 from rfl, nI_plus]
  refine g_sld (i + 1) rfl rfl (by rw [hl, nIc hb]; omega) ?_
  refine oRun_ok 4 rfl ?_
  rw [show (2 : Int32) = nI 2 from rfl, nI_plus]
  refine g_sld (i + 2) rfl rfl (by rw [hl, nIc hb]; omega) ?_
  refine g_callV rfl rfl rfl rfl rfl mok_Oak_ask (by decide) (p_ask M M (M 60 0 (i + 1)) (M 60 0 (i + 2)) hI) ?_
  rintro r M1 ⟨rfl, i1, f1⟩
  have e1 : M1 60 = M 60 := lw_s1 f1
  have hl1 : M1 60 1 0 = nI n := by rw [e1]; exact hl
  refine oRun_ok 5 rfl ?_
  rw [show (1 : Int32) = nI 1 from rfl, nI_plus]
  refine g_sld (i + 1) rfl rfl (by rw [hl1, nIc hb]; omega) ?_
  rw [show M1 60 0 (i + 1) = M 60 0 (i + 1) from congrFun (congrFun e1 0) _]
  refine oRun_ok 4 rfl ?_
  rw [show (2 : Int32) = nI 2 from rfl, nI_plus]
  refine g_sld (i + 2) rfl rfl (by rw [hl1, nIc hb]; omega) ?_
  rw [show M1 60 0 (i + 2) = M 60 0 (i + 2) from congrFun (congrFun e1 0) _]
  refine g_callV rfl rfl rfl rfl rfl mok_Mod_ask (by decide) (q_ask (C := M) (D := M) (M := M1) (M 60 0 (i + 1)) (M 60 0 (i + 2)) hI f1.ps) ?_
  rintro r M2 ⟨rfl, i2, f2⟩
  refine g_ic_eq rfl (fun _ => ?_) (fun z => absurd rfl z)
  exact k M2 (lw_in i1 i2 f2) ((lw_s2 f2).trans e1)
set_option maxRecDepth 100000 in
theorem lw_38 {M : oM} {i n : Nat} {Q : Option Int32 → oM → Prop} (hI : oI M M) (hl : M 60 1 0 = nI n) (hi : i + 6 ≤ n) (hb : n < 2147483648) (k : ∀ M2, oI M2 M2 → M2 60 = M 60 → oG k_Law_law 200 1693 [some (.inr (K_SCR, 0)), some (.inr (K_OAK, 0)), some (.inr (K_MOD, 0)), some (.inl (nI i))] [] M2 Q) : oG k_Law_law 200 1532 [some (.inr (K_SCR, 0)), some (.inr (K_OAK, 0)), some (.inr (K_MOD, 0)), some (.inl (nI i))] [] M Q := by
  refine oRun_ok 5 rfl ?_
  rw [show (1 : Int32) = nI 1 from rfl, nI_plus]
  refine g_sld (i + 1) rfl rfl (by rw [hl, nIc hb]; omega) ?_
  refine oRun_ok 4 rfl ?_
  rw [show (2 : Int32) = nI 2 from rfl, nI_plus]
  refine g_sld (i + 2) rfl rfl (by rw [hl, nIc hb]; omega) ?_
  refine g_callV rfl rfl rfl rfl rfl mok_Oak_item (by decide) (p_item M M (M 60 0 (i + 1)) (M 60 0 (i + 2)) hI) ?_
  rintro r M1 ⟨rfl, i1, f1⟩
  have e1 : M1 60 = M 60 := lw_s1 f1
  have hl1 : M1 60 1 0 = nI n := by rw [e1]; exact hl
  refine oRun_ok 5 rfl ?_
  rw [show (1 : Int32) = nI 1 from rfl, nI_plus]
  refine g_sld (i + 1) rfl rfl (by rw [hl1, nIc hb]; omega) ?_
  rw [show M1 60 0 (i + 1) = M 60 0 (i + 1) from congrFun (congrFun e1 0) _]
  refine oRun_ok 4 rfl ?_
  rw [show (2 : Int32) = nI 2 from rfl, nI_plus]
  refine g_sld (i + 2) rfl rfl (by rw [hl1, nIc hb]; omega) ?_
  rw [show M1 60 0 (i + 2) = M 60 0 (i + 2) from congrFun (congrFun e1 0) _]
  refine g_callV rfl rfl rfl rfl rfl mok_Mod_item (by decide) (q_item (C := M) (D := M) (M := M1) (M 60 0 (i + 1)) (M 60 0 (i + 2)) hI f1.ps) ?_
  rintro r M2 ⟨rfl, i2, f2⟩
  refine g_ic_eq rfl (fun _ => ?_) (fun z => absurd rfl z)
  exact k M2 (lw_in i1 i2 f2) ((lw_s2 f2).trans e1)
set_option maxRecDepth 100000 in
theorem lw_39 {M : oM} {i n : Nat} {Q : Option Int32 → oM → Prop} (hI : oI M M) (hl : M 60 1 0 = nI n) (hi : i + 6 ≤ n) (hb : n < 2147483648) (k : ∀ M2, oI M2 M2 → M2 60 = M 60 → oG k_Law_law 200 1693 [some (.inr (K_SCR, 0)), some (.inr (K_OAK, 0)), some (.inr (K_MOD, 0)), some (.inl (nI i))] [] M2 Q) : oG k_Law_law 200 1565 [some (.inr (K_SCR, 0)), some (.inr (K_OAK, 0)), some (.inr (K_MOD, 0)), some (.inl (nI i))] [] M Q := by
  refine oRun_ok 5 rfl ?_
  rw [show (1 : Int32) = nI 1 from rfl, nI_plus]
  refine g_sld (i + 1) rfl rfl (by rw [hl, nIc hb]; omega) ?_
  refine oRun_ok 4 rfl ?_
  rw [show (2 : Int32) = nI 2 from rfl, nI_plus]
  refine g_sld (i + 2) rfl rfl (by rw [hl, nIc hb]; omega) ?_
  refine g_callV rfl rfl rfl rfl rfl mok_Oak_rest (by decide) (p_rest M M (M 60 0 (i + 1)) (M 60 0 (i + 2)) hI) ?_
  rintro r M1 ⟨rfl, i1, f1⟩
  have e1 : M1 60 = M 60 := lw_s1 f1
  have hl1 : M1 60 1 0 = nI n := by rw [e1]; exact hl
  refine oRun_ok 5 rfl ?_
  rw [show (1 : Int32) = nI 1 from rfl, nI_plus]
  refine g_sld (i + 1) rfl rfl (by rw [hl1, nIc hb]; omega) ?_
  rw [show M1 60 0 (i + 1) = M 60 0 (i + 1) from congrFun (congrFun e1 0) _]
  refine oRun_ok 4 rfl ?_
  rw [show (2 : Int32) = nI 2 from rfl, nI_plus]
  refine g_sld (i + 2) rfl rfl (by rw [hl1, nIc hb]; omega) ?_
  rw [show M1 60 0 (i + 2) = M 60 0 (i + 2) from congrFun (congrFun e1 0) _]
  refine g_callV rfl rfl rfl rfl rfl mok_Mod_rest (by decide) (q_rest (C := M) (D := M) (M := M1) (M 60 0 (i + 1)) (M 60 0 (i + 2)) hI f1.ps) ?_
  rintro r M2 ⟨rfl, i2, f2⟩
  refine g_ic_eq rfl (fun _ => ?_) (fun z => absurd rfl z)
  exact k M2 (lw_in i1 i2 f2) ((lw_s2 f2).trans e1)
set_option maxRecDepth 100000 in
theorem lw_40 {M : oM} {i n : Nat} {Q : Option Int32 → oM → Prop} (hI : oI M M) (hl : M 60 1 0 = nI n) (hi : i + 6 ≤ n) (hb : n < 2147483648) (k : ∀ M2, oI M2 M2 → M2 60 = M 60 → oG k_Law_law 200 1693 [some (.inr (K_SCR, 0)), some (.inr (K_OAK, 0)), some (.inr (K_MOD, 0)), some (.inl (nI i))] [] M2 Q) : oG k_Law_law 200 1598 [some (.inr (K_SCR, 0)), some (.inr (K_OAK, 0)), some (.inr (K_MOD, 0)), some (.inl (nI i))] [] M Q := by
  refine oRun_ok 5 rfl ?_
  rw [show (1 : Int32) = nI 1 from rfl, nI_plus]
  refine g_sld (i + 1) rfl rfl (by rw [hl, nIc hb]; omega) ?_
  refine g_callV rfl rfl rfl rfl rfl mok_Oak_tell (by decide) (p_tell M M (M 60 0 (i + 1)) hI) ?_
  rintro r M1 ⟨rfl, i1, f1⟩
  have e1 : M1 60 = M 60 := lw_s1 f1
  have hl1 : M1 60 1 0 = nI n := by rw [e1]; exact hl
  refine oRun_ok 5 rfl ?_
  rw [show (1 : Int32) = nI 1 from rfl, nI_plus]
  refine g_sld (i + 1) rfl rfl (by rw [hl1, nIc hb]; omega) ?_
  rw [show M1 60 0 (i + 1) = M 60 0 (i + 1) from congrFun (congrFun e1 0) _]
  refine g_callV rfl rfl rfl rfl rfl mok_Mod_tell (by decide) (q_tell (C := M) (D := M) (M := M1) (M 60 0 (i + 1)) hI f1.ps) ?_
  rintro r M2 ⟨rfl, i2, f2⟩
  refine g_ic_eq rfl (fun _ => ?_) (fun z => absurd rfl z)
  exact k M2 (lw_in i1 i2 f2) ((lw_s2 f2).trans e1)
set_option maxRecDepth 100000 in
theorem lw_41 {M : oM} {i n : Nat} {Q : Option Int32 → oM → Prop} (hI : oI M M) (hl : M 60 1 0 = nI n) (hi : i + 6 ≤ n) (hb : n < 2147483648) (k : ∀ M2, oI M2 M2 → M2 60 = M 60 → oG k_Law_law 200 1693 [some (.inr (K_SCR, 0)), some (.inr (K_OAK, 0)), some (.inr (K_MOD, 0)), some (.inl (nI i))] [] M2 Q) : oG k_Law_law 200 1621 [some (.inr (K_SCR, 0)), some (.inr (K_OAK, 0)), some (.inr (K_MOD, 0)), some (.inl (nI i))] [] M Q := by
  refine oRun_ok 5 rfl ?_
  rw [show (1 : Int32) = nI 1 from rfl, nI_plus]
  refine g_sld (i + 1) rfl rfl (by rw [hl, nIc hb]; omega) ?_
  refine g_callV rfl rfl rfl rfl rfl mok_Oak_check (by decide) (p_check M M (M 60 0 (i + 1)) hI) ?_
  rintro r M1 ⟨rfl, i1, f1⟩
  have e1 : M1 60 = M 60 := lw_s1 f1
  have hl1 : M1 60 1 0 = nI n := by rw [e1]; exact hl
  refine oRun_ok 5 rfl ?_
  rw [show (1 : Int32) = nI 1 from rfl, nI_plus]
  refine g_sld (i + 1) rfl rfl (by rw [hl1, nIc hb]; omega) ?_
  rw [show M1 60 0 (i + 1) = M 60 0 (i + 1) from congrFun (congrFun e1 0) _]
  refine g_callV rfl rfl rfl rfl rfl mok_Mod_check (by decide) (q_check (C := M) (D := M) (M := M1) (M 60 0 (i + 1)) hI f1.ps) ?_
  rintro r M2 ⟨rfl, i2, f2⟩
  refine g_ic_eq rfl (fun _ => ?_) (fun z => absurd rfl z)
  exact k M2 (lw_in i1 i2 f2) ((lw_s2 f2).trans e1)
set_option maxRecDepth 100000 in
theorem lw_42 {M : oM} {i n : Nat} {Q : Option Int32 → oM → Prop} (hI : oI M M) (hl : M 60 1 0 = nI n) (hi : i + 6 ≤ n) (hb : n < 2147483648) (k : ∀ M2, oI M2 M2 → M2 60 = M 60 → oG k_Law_law 200 1693 [some (.inr (K_SCR, 0)), some (.inr (K_OAK, 0)), some (.inr (K_MOD, 0)), some (.inl (nI i))] [] M2 Q) : oG k_Law_law 200 1644 [some (.inr (K_SCR, 0)), some (.inr (K_OAK, 0)), some (.inr (K_MOD, 0)), some (.inl (nI i))] [] M Q := by
  refine oRun_ok 1 rfl ?_
  refine g_callV rfl rfl rfl rfl rfl mok_Oak_keep (by decide) (p_keep M M  hI) ?_
  rintro r M1 ⟨rfl, i1, f1⟩
  have e1 : M1 60 = M 60 := lw_s1 f1
  have hl1 : M1 60 1 0 = nI n := by rw [e1]; exact hl
  refine oRun_ok 1 rfl ?_
  refine g_callV rfl rfl rfl rfl rfl mok_Mod_keep (by decide) (q_keep (C := M) (D := M) (M := M1)  hI f1.ps) ?_
  rintro r M2 ⟨rfl, i2, f2⟩
  refine g_ic_eq rfl (fun _ => ?_) (fun z => absurd rfl z)
  exact k M2 (lw_in i1 i2 f2) ((lw_s2 f2).trans e1)
set_option maxRecDepth 100000 in
theorem lw_43 {M : oM} {i n : Nat} {Q : Option Int32 → oM → Prop} (hI : oI M M) (hl : M 60 1 0 = nI n) (hi : i + 6 ≤ n) (hb : n < 2147483648) (k : ∀ M2, oI M2 M2 → M2 60 = M 60 → oG k_Law_law 200 1693 [some (.inr (K_SCR, 0)), some (.inr (K_OAK, 0)), some (.inr (K_MOD, 0)), some (.inl (nI i))] [] M2 Q) : oG k_Law_law 200 1657 [some (.inr (K_SCR, 0)), some (.inr (K_OAK, 0)), some (.inr (K_MOD, 0)), some (.inl (nI i))] [] M Q := by
  refine oRun_ok 1 rfl ?_
  refine g_callV rfl rfl rfl rfl rfl mok_Oak_back (by decide) (p_back M M  hI) ?_
  rintro r M1 ⟨rfl, i1, f1⟩
  have e1 : M1 60 = M 60 := lw_s1 f1
  have hl1 : M1 60 1 0 = nI n := by rw [e1]; exact hl
  refine oRun_ok 1 rfl ?_
  refine g_callV rfl rfl rfl rfl rfl mok_Mod_back (by decide) (q_back (C := M) (D := M) (M := M1)  hI f1.ps) ?_
  rintro r M2 ⟨rfl, i2, f2⟩
  refine g_ic_eq rfl (fun _ => ?_) (fun z => absurd rfl z)
  exact k M2 (lw_in i1 i2 f2) ((lw_s2 f2).trans e1)
set_option maxRecDepth 100000 in
theorem lw_44 {M : oM} {i n : Nat} {Q : Option Int32 → oM → Prop} (hI : oI M M) (hl : M 60 1 0 = nI n) (hi : i + 6 ≤ n) (hb : n < 2147483648) (k : ∀ M2, oI M2 M2 → M2 60 = M 60 → oG k_Law_law 200 1693 [some (.inr (K_SCR, 0)), some (.inr (K_OAK, 0)), some (.inr (K_MOD, 0)), some (.inl (nI i))] [] M2 Q) : oG k_Law_law 200 1670 [some (.inr (K_SCR, 0)), some (.inr (K_OAK, 0)), some (.inr (K_MOD, 0)), some (.inl (nI i))] [] M Q := by
  refine oRun_ok 5 rfl ?_
  rw [show (1 : Int32) = nI 1 from rfl, nI_plus]
  refine g_sld (i + 1) rfl rfl (by rw [hl, nIc hb]; omega) ?_
  refine g_callV rfl rfl rfl rfl rfl mok_Oak_count (by decide) (p_count M M (M 60 0 (i + 1)) hI) ?_
  rintro r M1 ⟨rfl, i1, f1⟩
  have e1 : M1 60 = M 60 := lw_s1 f1
  have hl1 : M1 60 1 0 = nI n := by rw [e1]; exact hl
  refine oRun_ok 5 rfl ?_
  rw [show (1 : Int32) = nI 1 from rfl, nI_plus]
  refine g_sld (i + 1) rfl rfl (by rw [hl1, nIc hb]; omega) ?_
  rw [show M1 60 0 (i + 1) = M 60 0 (i + 1) from congrFun (congrFun e1 0) _]
  refine g_callV rfl rfl rfl rfl rfl mok_Mod_count (by decide) (q_count (C := M) (D := M) (M := M1) (M 60 0 (i + 1)) hI f1.ps) ?_
  rintro r M2 ⟨rfl, i2, f2⟩
  refine g_ic_eq rfl (fun _ => ?_) (fun z => absurd rfl z)
  exact k M2 (lw_in i1 i2 f2) ((lw_s2 f2).trans e1)
