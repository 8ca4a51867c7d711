/-! ===== the law's loop ===== -/
set_option maxRecDepth 100000 in
theorem lw_loop {n : Nat} (hb : n < 2147483648) : ∀ (q i : Nat) (M : oM), n - i ≤ q → i ≤ n → oI M M → M 60 1 0 = nI n → oG k_Law_law 200 18 [some (.inr (K_SCR, 0)), some (.inr (K_OAK, 0)), some (.inr (K_MOD, 0)), some (.inl (nI i))] [] M (fun r _ => r = some 1) := by
  intro q
  induction q with
  | zero =>
    intro i M hq hin hI hl
    refine oRun_ok 2 rfl ?_
    refine g_slen rfl ?_
    rw [hl]
    refine oRun_ok 2 rfl ?_
    refine g_ic_gt rfl (fun _ => ?_) (fun z => ?_)
    · refine oRun_ok 1 rfl ?_
      exact g_iret rfl rfl rfl rfl
    · refine absurd (iLt.mpr ?_) z
      rw [iSub (by rw [nIt hb]; have : (6 : Int32).toInt = 6 := rfl; omega), nIt hb, nIt (by omega)]
      have : (6 : Int32).toInt = 6 := rfl
      omega
  | succ q ih =>
    intro i M hq hin hI hl
    refine oRun_ok 2 rfl ?_
    refine g_slen rfl ?_
    rw [hl]
    refine oRun_ok 2 rfl ?_
    refine g_ic_gt rfl (fun _ => ?_) (fun z => ?_)
    · refine oRun_ok 1 rfl ?_
      exact g_iret rfl rfl rfl rfl
    have hi : i + 6 ≤ n := by
      have z : ¬ ((nI n - 6).toInt < (nI i).toInt) := fun y => z (iLt.mpr y)
      rw [iSub (by rw [nIt hb]; have : (6 : Int32).toInt = 6 := rfl; omega), nIt hb, nIt (by omega)] at z
      have : (6 : Int32).toInt = 6 := rfl
      omega
    have k : ∀ M2, oI M2 M2 → M2 60 = M 60 → oG k_Law_law 200 1693 [some (.inr (K_SCR, 0)), some (.inr (K_OAK, 0)), some (.inr (K_MOD, 0)), some (.inl (nI i))] [] M2 (fun r _ => r = some 1) := by
      intro M2 h1 h2
      refine oRun_ok 2 rfl ?_
      rw [show (6 : Int32) = nI 6 from rfl, nI_plus]
      exact ih (i + 6) M2 (by omega) hi h1 (by rw [h2]; exact hl)
    refine oRun_ok 2 rfl ?_
    refine g_sld i rfl rfl (by rw [hl, nIc hb]; omega) ?_
    refine oRun_ok 2 rfl ?_
    refine g_tsw [(0, 228), (1, 261), (2, 294), (3, 337), (4, 380), (5, 413), (6, 456), (7, 499), (8, 542), (9, 585), (10, 628), (11, 661), (12, 694), (13, 717), (14, 760), (15, 783), (16, 806), (17, 839), (18, 862), (19, 895), (20, 918), (21, 941), (22, 974), (23, 1007), (24, 1030), (25, 1063), (26, 1106), (27, 1149), (28, 1172), (29, 1185), (30, 1218), (31, 1241), (32, 1284), (33, 1327), (34, 1360), (35, 1393), (36, 1456), (37, 1499), (38, 1532), (39, 1565), (40, 1598), (41, 1621), (42, 1644), (43, 1657), (44, 1670)] 1693 rfl (by decide +kernel) rfl ⟨fun h33 => ?_, fun h33 => ?_, fun h33 => ?_, fun h33 => ?_, fun h33 => ?_, fun h33 => ?_, fun h33 => ?_, fun h33 => ?_, fun h33 => ?_, fun h33 => ?_, fun h33 => ?_, fun h33 => ?_, fun h33 => ?_, fun h33 => ?_, fun h33 => ?_, fun h33 => ?_, fun h33 => ?_, fun h33 => ?_, fun h33 => ?_, fun h33 => ?_, fun h33 => ?_, fun h33 => ?_, fun h33 => ?_, fun h33 => ?_, fun h33 => ?_, fun h33 => ?_, fun h33 => ?_, fun h33 => ?_, fun h33 => ?_, fun h33 => ?_, fun h33 => ?_, fun h33 => ?_, fun h33 => ?_, fun h33 => ?_, fun h33 => ?_, fun h33 => ?_, fun h33 => ?_, fun h33 => ?_, fun h33 => ?_, fun h33 => ?_, fun h33 => ?_, fun h33 => ?_, fun h33 => ?_, fun h33 => ?_, fun h33 => ?_, trivial⟩ (fun h33 => ?_)
    · exact lw_0 hI hl hi hb k
    · exact lw_1 hI hl hi hb k
    · exact lw_2 hI hl hi hb k
    · exact lw_3 hI hl hi hb k
    · exact lw_4 hI hl hi hb k
    · exact lw_5 hI hl hi hb k
    · exact lw_6 hI hl hi hb k
    · exact lw_7 hI hl hi hb k
    · exact lw_8 hI hl hi hb k
    · exact lw_9 hI hl hi hb k
    · exact lw_10 hI hl hi hb k
    · exact lw_11 hI hl hi hb k
    · exact lw_12 hI hl hi hb k
    · exact lw_13 hI hl hi hb k
    · exact lw_14 hI hl hi hb k
    · exact lw_15 hI hl hi hb k
    · exact lw_16 hI hl hi hb k
    · exact lw_17 hI hl hi hb k
    · exact lw_18 hI hl hi hb k
    · exact lw_19 hI hl hi hb k
    · exact lw_20 hI hl hi hb k
    · exact lw_21 hI hl hi hb k
    · exact lw_22 hI hl hi hb k
    · exact lw_23 hI hl hi hb k
    · exact lw_24 hI hl hi hb k
    · exact lw_25 hI hl hi hb k
    · exact lw_26 hI hl hi hb k
    · exact lw_27 hI hl hi hb k
    · exact lw_28 hI hl hi hb k
    · exact lw_29 hI hl hi hb k
    · exact lw_30 hI hl hi hb k
    · exact lw_31 hI hl hi hb k
    · exact lw_32 hI hl hi hb k
    · exact lw_33 hI hl hi hb k
    · exact lw_34 hI hl hi hb k
    · exact lw_35 hI hl hi hb k
    · exact lw_36 hI hl hi hb k
    · exact lw_37 hI hl hi hb k
    · exact lw_38 hI hl hi hb k
    · exact lw_39 hI hl hi hb k
    · exact lw_40 hI hl hi hb k
    · exact lw_41 hI hl hi hb k
    · exact lw_42 hI hl hi hb k
    · exact lw_43 hI hl hi hb k
    · exact lw_44 hI hl hi hb k
    · exact k M hI rfl

