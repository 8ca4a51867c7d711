/-! ===== deed, deedTold, set ===== -/
theorem oNew_ok {N N' : Nat → Int32} (hN : oNOk N) (h4 : cD N < 4) (hs : ∀ j, ¬ (20 + 35 * cD N ≤ j ∧ j < 55 + 35 * cD N) → ¬ j = 2 → N' j = N j) (h2 : N' 2 = nI (cD N + 1)) (hO : oDOk N' (cD N)) : oNOk N' := by
  obtain ⟨h1, -, h3, g4, h5, h6⟩ := hN
  have e1 : cS N' = cS N := by unfold cS; rw [hs 1 (by omega) (by omega)]
  have e2 : cD N' = cD N + 1 := by rw [show cD N' = (N' 2).toNatClampNeg from rfl, h2, nIc (by omega)]
  have e3 : cT N' = cT N := by unfold cT; rw [hs 3 (by omega) (by omega)]
  have r2 : inR (N' 2) 0 4 := by
    rw [h2]
    exact ⟨by rw [nIt (by omega)]; omega, by rw [nIt (by omega)]; omega⟩
  refine ⟨by rw [hs 1 (by omega) (by omega)]; exact h1, r2, by rw [hs 3 (by omega) (by omega)]; exact h3, fun i hi => ?_, fun e he => ?_, fun t ht => ?_⟩
  · rw [e1] at hi
    have : cS N ≤ 8 := (inR_nI (n := 8) h1 (by decide)).2
    rw [hs _ (by omega) (by omega), hs _ (by omega) (by omega)]
    exact g4 i hi
  · rw [e2] at he
    by_cases z : e = cD N
    · rw [z]; exact hO
    · have hc : N' (20 + 35 * e + 4) = N (20 + 35 * e + 4) := hs _ (by omega) (by omega)
      have ec : cC N' e = cC N e := by unfold cC; rw [hc]
      have h5e := h5 e (by omega)
      have c10 := (oNC h5e).2
      unfold oDOk at h5e ⊢
      rw [ec, hc, hs (20 + 35 * e) (by omega) (by omega), hs (20 + 35 * e + 1) (by omega) (by omega), hs (20 + 35 * e + 2) (by omega) (by omega), hs (20 + 35 * e + 3) (by omega) (by omega)]
      refine ⟨h5e.1, h5e.2.1, h5e.2.2.1, h5e.2.2.2.1, h5e.2.2.2.2.1, fun j hj => ?_⟩
      rw [hs (20 + 35 * e + 5 + 3 * j) (by omega) (by omega), hs (20 + 35 * e + 5 + 3 * j + 1) (by omega) (by omega), hs (20 + 35 * e + 5 + 3 * j + 2) (by omega) (by omega)]
      exact h5e.2.2.2.2.2 j hj
  · rw [e3] at ht
    have h6t := h6 t ht
    have ef : (fun k => N' (188 + 96 * t + k)) = (fun k => N (188 + 96 * t + k)) := by
      funext k
      exact hs _ (by omega) (by omega)
    unfold oTOk tN tK at h6t ⊢
    rw [hs (160 + 2 * t) (by omega) (by omega), ef]
    exact h6t
theorem oNew_rl {C C' : oM} {N N' : Nat → Int32} (hN : oNOk N) (hL : oRL C N 0) (h4 : cD N < 4) (hs : ∀ j, ¬ (20 + 35 * cD N ≤ j ∧ j < 55 + 35 * cD N) → ¬ j = 2 → N' j = N j) (h2 : N' 2 = nI (cD N + 1)) (hF : oFr (fun k i => (k = K_LAND ∧ i = 0) ∨ (k = K_DEED ∧ i = 4 * 0 + cD N)) C C') (k1 : C' K_LAND 0 1 = C K_LAND 0 1) (k4 : C' K_LAND 0 4 = nI (cD N + 1)) (k6 : C' K_LAND 0 6 = C K_LAND 0 6) (k7 : C' K_LAND 0 7 = C K_LAND 0 7) (hR : oRD C' N' (4 * 0 + cD N) (cD N)) : oRL C' N' 0 := by
  obtain ⟨-, s8⟩ := oNS hN
  have e1 : cS N' = cS N := by unfold cS; rw [hs 1 (by omega) (by omega)]
  have e2 : cD N' = cD N + 1 := by rw [show cD N' = (N' 2).toNatClampNeg from rfl, h2, nIc (by omega)]
  have e3 : cT N' = cT N := by unfold cT; rw [hs 3 (by omega) (by omega)]
  have ek : ∀ k ∈ [K_STX, K_STY, K_DK, K_DW, K_DL, K_TEXT, K_TCOD], ∀ i, C' k i = C k i := fun k hk i => hF k i (fun q => (by decide : ∀ k ∈ [K_STX, K_STY, K_DK, K_DW, K_DL, K_TEXT, K_TCOD], ¬ (k = K_LAND ∨ k = K_DEED)) k hk (q.imp And.left And.left))
  obtain ⟨l1, l2, l3, l4, l5, l6, l7⟩ := hL
  unfold oRL
  rw [e1, e2, e3, k1, k4, k6, k7, ek K_STX (by decide), ek K_STY (by decide), hs 0 (by omega) (by omega), hs 1 (by omega) (by omega), h2, hs 3 (by omega) (by omega)]
  refine ⟨l1, rfl, l3, l4, fun i hi => ?_, fun e he => ?_, fun t ht => ?_⟩
  · rw [hs _ (by omega) (by omega), hs _ (by omega) (by omega)]
    exact l5 i hi
  · by_cases z : e = cD N
    · rw [z]; exact hR
    · have ei : C' K_DEED (4 * 0 + e) = C K_DEED (4 * 0 + e) := hF _ _ (fun q => by
        rcases q with ⟨q, -⟩ | ⟨-, q⟩
        · exact absurd q (by decide)
        · omega)
      have hle := l6 e (by omega)
      have c10 := (oNC (hN.2.2.2.2.1 e (by omega))).2
      have ec : cC N' e = cC N e := by unfold cC; rw [hs _ (by omega) (by omega)]
      unfold oRD at hle ⊢
      rw [ec, ei, ek K_DK (by decide), ek K_DW (by decide), ek K_DL (by decide)]
      refine ⟨fun w hw => ?_, fun j hj => ?_⟩
      · rw [hs _ (by omega) (by omega)]
        exact hle.1 w hw
      · rw [hs _ (by omega) (by omega), hs _ (by omega) (by omega), hs _ (by omega) (by omega)]
        exact hle.2 j hj
  · have h7t := l7 t ht
    have t96 := (hN.2.2.2.2.2 t ht).2.1
    have et : tN N' t = tN N t := by unfold tN; rw [hs _ (by omega) (by omega)]
    have ekk : tK N' t = tK N t := by unfold tK; rw [hs _ (by omega) (by omega)]
    unfold oRT at h7t ⊢
    rw [et, ekk, ek K_TEXT (by decide), ek K_TCOD (by decide), hs _ (by omega) (by omega)]
    refine ⟨h7t.1, h7t.2.1, h7t.2.2.1, fun k hk => ?_⟩
    rw [hs _ (by omega) (by omega)]
    exact h7t.2.2.2 k hk
theorem cell_in {b : Int32} (h : ¬ f_Oak_isCell b = 0) : ∃ x y, x < 30 ∧ y < 30 ∧ b / 100 = nI x ∧ oRem b 100 = nI y := by
  unfold f_Oak_isCell at h
  by_cases a : b < 0
  · exact absurd (if_pos a) h
  · rw [if_neg a] at h
    by_cases c : 30 ≤ b / 100
    · exact absurd (if_pos c) h
    · rw [if_neg c] at h
      by_cases d : 30 ≤ oRem b 100
      · exact absurd (if_pos d) h
      · have h0 : 0 ≤ b.toInt := by
          have := Int32.not_lt.mp a
          exact iLe.mp this
        have hb := iRng b
        have e := nI_ofInt h0
        generalize hn : b.toInt.toNat = n at e
        have hn2 : n < 2147483648 := by omega
        rw [e, show (100 : Int32) = nI 100 from rfl, nIdiv hn2 (by decide) (by decide), show (30 : Int32) = nI 30 from rfl, nIle (by decide) (by omega)] at c
        rw [e, show (100 : Int32) = nI 100 from rfl, nIrem hn2 (by decide) (by decide), show (30 : Int32) = nI 30 from rfl, nIle (by decide) (by omega)] at d
        refine ⟨n / 100, n % 100, by omega, by omega, ?_, ?_⟩
        · rw [e, show (100 : Int32) = nI 100 from rfl, nIdiv hn2 (by decide) (by decide)]
        · rw [e, show (100 : Int32) = nI 100 from rfl, nIrem hn2 (by decide) (by decide)]
theorem inR_n {n m : Nat} (h : n ≤ m) (hm : m < 2147483648) : inR (nI n) 0 m := ⟨by rw [nIt (by omega)]; omega, by rw [nIt (by omega)]; omega⟩
def n_deed (N : Nat → Int32) (n : Nat) (b y s : Int32) : Nat → Int32 := upd (upd (upd (upd (upd (upd N (20 + 35 * n) (b / 100)) (20 + 35 * n + 1) (oRem b 100)) (20 + 35 * n + 2) y) (20 + 35 * n + 3) s) (20 + 35 * n + 4) 0) 2 (nI (n + 1))
def s_deed (D : oM) (b y s : Int32) : Int32 × oM := if f_Oak_isCell b = 0 then (vBAD, D) else if f_Oak_isWithin y 0 999 = 0 then (vBAD, D) else if f_Oak_isWithin s (-9) 9 = 0 then (vBAD, D) else if D K_M_now 0 2 = 4 then (vFULL, D) else (D K_M_now 0 2, oSR D K_M_now (n_deed (D K_M_now 0) (cD (D K_M_now 0)) b y s))
theorem p_deed (M D : oM) (b y s : Int32) (hI : oI M D) : oCt 3 k_Oak_deed [.inr (K_OAK, 0), .inl b, .inl y, .inl s] M (oQC (s_deed D b y s) M) := by
  obtain ⟨hS, s8⟩ := oND hI.ok
  have hM : M K_LAND 0 4 = nI (cD (D K_M_now 0)) := hI.dd.trans hS
  generalize hn : cD (D K_M_now 0) = n at hS s8 hM
  refine oCt.of (ls := [some (.inr (K_OAK, 0)), some (.inl b), some (.inl y), some (.inl s), none]) mok_Oak_deed rfl rfl ?_
  refine oRun_ok 1 rfl ?_
  refine g_callS rfl rfl rfl rfl mok_Oak_isCell (by decide) (c_Oak_isCell _ _) ?_
  rintro r1 M1 ⟨rfl, e⟩; rw [e]
  refine g_if_eq rfl (fun h4 => ?_) (fun h4 => ?_)
  · refine oRun_ok 1 rfl ?_
    exact g_iret rfl rfl rfl (oQC.same hI (if_pos h4))
  · refine oRun_ok 1 rfl ?_
    refine g_callS rfl rfl rfl rfl mok_Oak_isYear (by decide) (c_Oak_isYear _ _) ?_
    rintro r8 M8 ⟨rfl, e⟩; rw [e]
    refine g_if_eq rfl (fun h11 => ?_) (fun h11 => ?_)
    · refine oRun_ok 1 rfl ?_
      exact g_iret rfl rfl rfl (oQC.same hI ((if_neg h4).trans (if_pos h11)))
    · refine oRun_ok 1 rfl ?_
      refine g_callS rfl rfl rfl rfl mok_Oak_isSlack (by decide) (c_Oak_isSlack _ _) ?_
      rintro r15 M15 ⟨rfl, e⟩; rw [e]
      refine g_if_ne rfl (fun h18 => ?_) (fun h18 => ?_)
      · refine oRun_ok 4 rfl ?_
        rw [show M 1 0 4 = nI n from hM]
        refine g_ic_lt rfl (fun h32 => ?_) (fun h32 => ?_)
        · have hn8 : n < 4 := (nIlt (a := n) (b := 4) (by omega) (by omega)).mp h32
          refine oRun_ok 6 rfl ?_
          refine g_aald n rfl rfl hM (by omega) rfl ?_
          refine oRun_ok 3 rfl ?_
          refine g_callV rfl rfl rfl rfl rfl mok_Deed_beginAt (by decide) (c_Deed_beginAt _ (4 * 0 + n) _) ?_
          rintro r58 M58 ⟨rfl, e⟩; rw [e]
          refine oRun_ok 21 rfl ?_
          refine g_iret rfl rfl rfl ?_
          rw [show oUp (oUp (oUp (oUp (oUp (oUp M K_DEED (4 * 0 + n) 0 (b / 100)) K_DEED (4 * 0 + n) 1 (oRem b 100)) 5 (4 * 0 + n) 2 y) 5 (4 * 0 + n) 3 s) 5 (4 * 0 + n) 4 0) 1 0 4 (oUp (oUp (oUp (oUp (oUp M K_DEED (4 * 0 + n) 0 (b / 100)) K_DEED (4 * 0 + n) 1 (oRem b 100)) 5 (4 * 0 + n) 2 y) 5 (4 * 0 + n) 3 s) 5 (4 * 0 + n) 4 0 1 0 4 + 1) 1 0 4 - 1 = nI n by
            rw [oUp_self]
            simp only [oUp_k (M := _) (k := 5) (k' := 1) (by decide)]
            rw [show M 1 0 4 = nI n from hM, nI_1, nI_pred]]
          rw [show oUp (oUp (oUp (oUp (oUp M K_DEED (4 * 0 + n) 0 (b / 100)) K_DEED (4 * 0 + n) 1 (oRem b 100)) 5 (4 * 0 + n) 2 y) 5 (4 * 0 + n) 3 s) 5 (4 * 0 + n) 4 0 1 0 4 + 1 = nI (n + 1) by
            simp only [oUp_k (M := _) (k := 5) (k' := 1) (by decide)]
            rw [show M 1 0 4 = nI n from hM, nI_1]]
          have ne4 : ¬ D K_M_now 0 2 = 4 := by
            rw [hS, show (4 : Int32) = nI 4 from rfl, nIe (by omega) (by omega)]
            omega
          obtain ⟨cx, c2, hx, h2, ex, e2⟩ := cell_in h4
          have hs : ∀ j, ¬ (20 + 35 * n ≤ j ∧ j < 55 + 35 * n) → ¬ j = 2 → n_deed (D K_M_now 0) n b y s j = D K_M_now 0 j := by
            intro j h1 h2
            unfold n_deed
            repeat (first | rw [upd_ne (by omega)] | rw [upd_eq])
          have h2' : n_deed (D K_M_now 0) n b y s 2 = nI (n + 1) := upd_eq
          have v0 : n_deed (D K_M_now 0) n b y s (20 + 35 * n) = nI cx := by
            unfold n_deed
            repeat (first | rw [upd_ne (by omega)] | rw [upd_eq])
            exact ex
          have v1 : n_deed (D K_M_now 0) n b y s (20 + 35 * n + 1) = nI c2 := by
            unfold n_deed
            repeat (first | rw [upd_ne (by omega)] | rw [upd_eq])
            exact e2
          have v2 : n_deed (D K_M_now 0) n b y s (20 + 35 * n + 2) = y := by
            unfold n_deed
            repeat (first | rw [upd_ne (by omega)] | rw [upd_eq])
          have v3 : n_deed (D K_M_now 0) n b y s (20 + 35 * n + 3) = s := by
            unfold n_deed
            repeat (first | rw [upd_ne (by omega)] | rw [upd_eq])
          have v4 : n_deed (D K_M_now 0) n b y s (20 + 35 * n + 4) = 0 := by
            unfold n_deed
            repeat (first | rw [upd_ne (by omega)] | rw [upd_eq])
          have c0 : cC (n_deed (D K_M_now 0) n b y s) n = 0 := by
            unfold cC
            rw [v4]
            rfl
          have hO : oDOk (n_deed (D K_M_now 0) n b y s) n := by
            unfold oDOk
            rw [v0, v1, v2, v3, v4, c0]
            exact ⟨inR_n (m := 29) (by omega) (by decide), inR_n (m := 29) (by omega) (by decide), wiR h11, wiR h18, ⟨by decide, by decide⟩, fun j hj => by omega⟩
          subst hn
          refine oQC.land hI ?_ ?_ (oNew_ok hI.ok hn8 hs h2' hO) (oNew_rl hI.ok hI.rl hn8 hs h2' ?_ ?_ ?_ ?_ ?_ ⟨fun w hw => ?_, fun j hj => by omega⟩) ?_
          · refine (if_neg h4).trans ((if_neg h11).trans ((if_neg h18).trans ((if_neg ne4).trans ?_)))
            rw [hS]
          · exact (((((oFr.rf.up (oDS_ld hn8 ⟨rfl, Or.inl rfl⟩)).up (oDS_ld hn8 ⟨rfl, Or.inl rfl⟩)).up (oDS_ld hn8 ⟨rfl, Or.inl rfl⟩)).up (oDS_ld hn8 ⟨rfl, Or.inl rfl⟩)).up (oDS_ld hn8 ⟨rfl, Or.inl rfl⟩)).up (oSt_ld ⟨rfl, Or.inl rfl⟩)
          · exact (((((oFr.rf.up (Or.inr ⟨rfl, rfl⟩)).up (Or.inr ⟨rfl, rfl⟩)).up (Or.inr ⟨rfl, rfl⟩)).up (Or.inr ⟨rfl, rfl⟩)).up (Or.inr ⟨rfl, rfl⟩)).up (Or.inl ⟨rfl, rfl⟩)
          · exact oUp_j (by decide)
          · exact oUp_self
          · exact oUp_j (by decide)
          · exact oUp_j (by decide)
          · rw [oUp_k (by decide)]
            have hw5 : w = 0 ∨ w = 1 ∨ w = 2 ∨ w = 3 ∨ w = 4 := by omega
            rcases hw5 with rfl | rfl | rfl | rfl | rfl
            · exact (oUp_j (by decide)).trans ((oUp_j (by decide)).trans ((oUp_j (by decide)).trans ((oUp_j (by decide)).trans (oUp_self.trans (ex.trans v0.symm)))))
            · exact (oUp_j (by decide)).trans ((oUp_j (by decide)).trans ((oUp_j (by decide)).trans (oUp_self.trans (e2.trans v1.symm))))
            · exact (oUp_j (by decide)).trans ((oUp_j (by decide)).trans (oUp_self.trans v2.symm))
            · exact (oUp_j (by decide)).trans (oUp_self.trans v3.symm)
            · exact oUp_self.trans v4.symm
          · unfold cT
            rw [hs 3 (by omega) (by omega)]
            exact Nat.le_refl _
        · refine oRun_ok 1 rfl ?_
          refine g_iret rfl rfl rfl (oQC.same hI ((if_neg h4).trans ((if_neg h11).trans ((if_neg h18).trans (if_pos ?_)))))
          rw [hS]
          rw [show (4 : Int32) = nI 4 from rfl, nIlt (by omega) (by omega)] at h32
          rw [show n = 4 by omega]
          rfl
      · refine oRun_ok 1 rfl ?_
        exact g_iret rfl rfl rfl (oQC.same hI ((if_neg h4).trans ((if_neg h11).trans (if_pos h18))))
theorem q_deed (C M D : oM) (b y s : Int32) (hI : oI C D) (hD : oPs D M) : oCt 3 k_Mod_deed [.inr (K_MOD, 0), .inl b, .inl y, .inl s] M (oQM (s_deed D b y s) M) := by
  obtain ⟨hS, s8⟩ := oND hI.ok
  have hN := hD.now
  have hM : M K_M_now 0 2 = nI (cD (D K_M_now 0)) := by rw [hN]; exact hS
  generalize hn : cD (D K_M_now 0) = n at hS s8 hM
  refine oCt.of (ls := [some (.inr (K_MOD, 0)), some (.inl b), some (.inl y), some (.inl s), none]) mok_Mod_deed rfl rfl ?_
  refine oRun_ok 1 rfl ?_
  refine g_callS rfl rfl rfl rfl mok_Mod_isCell (by decide) (c_Mod_isCell _ _) ?_
  rintro r1 M1 ⟨rfl, e⟩; rw [e]
  refine g_if_eq rfl (fun h4 => ?_) (fun h4 => ?_)
  · refine oRun_ok 1 rfl ?_
    exact g_iret rfl rfl rfl (oQM.same hD (if_pos h4))
  · refine oRun_ok 3 rfl ?_
    refine g_callS rfl rfl rfl rfl mok_Mod_in (by decide) (c_Mod_in _ _ _ _) ?_
    rintro r12 M12 ⟨rfl, e⟩; rw [e]
    refine g_if_eq rfl (fun h15 => ?_) (fun h15 => ?_)
    · refine oRun_ok 1 rfl ?_
      exact g_iret rfl rfl rfl (oQM.same hD ((if_neg h4).trans (if_pos h15)))
    · refine oRun_ok 3 rfl ?_
      refine g_callS rfl rfl rfl rfl mok_Mod_in (by decide) (c_Mod_in _ _ _ _) ?_
      rintro r23 M23 ⟨rfl, e⟩; rw [e]
      refine g_if_ne rfl (fun h26 => ?_) (fun h26 => ?_)
      · refine oRun_ok 3 rfl ?_
        refine g_iald 2 rfl rfl rfl (by decide) ?_
        rw [show M 32 0 2 = nI n from hM]
        refine oRun_ok 1 rfl ?_
        refine g_ic_ne rfl (fun h39 => ?_) (fun h39 => ?_)
        · have hn8 : n < 4 := by
            have : ¬ n = 4 := fun z => h39 (by rw [z]; rfl)
            omega
          refine oRun_ok 5 rfl ?_
          refine g_iald 2 rfl rfl rfl (by decide) ?_
          rw [show M 32 0 2 = nI n from hM]
          refine oRun_ok 9 rfl ?_
          rw [show (20 : Int32) + 35 * nI n = nI (20 + 35 * n) by simp only [L20, L35, nI_times, nI_plus]]
          refine g_iast (20 + 35 * n) rfl rfl rfl (by omega) ?_
          refine oRun_ok 8 rfl ?_
          refine g_iast (20 + 35 * n + 1) rfl rfl (by simp only [L1, nI_plus]) (by omega) ?_
          refine oRun_ok 6 rfl ?_
          refine g_iast (20 + 35 * n + 2) rfl rfl (by simp only [L2, nI_plus]) (by omega) ?_
          refine oRun_ok 6 rfl ?_
          refine g_iast (20 + 35 * n + 3) rfl rfl (by simp only [L3, nI_plus]) (by omega) ?_
          refine oRun_ok 6 rfl ?_
          refine g_iast (20 + 35 * n + 4) rfl rfl (by simp only [L4, nI_plus]) (by omega) ?_
          refine oRun_ok 4 rfl ?_
          refine g_iald 2 rfl rfl rfl (by decide) ?_
          refine oRun_ok 2 rfl ?_
          refine g_iast 2 rfl rfl rfl (by decide) ?_
          refine oRun_ok 3 rfl ?_
          refine g_iald 2 rfl rfl rfl (by decide) ?_
          refine oRun_ok 2 rfl ?_
          refine g_iret rfl rfl rfl ?_
          have h2 : oUp (oUp (oUp (oUp (oUp M 32 0 (20 + 35 * n) (b / 100)) 32 0 (20 + 35 * n + 1) (oRem b 100)) 32 0 (20 + 35 * n + 2) y) 32 0 (20 + 35 * n + 3) s) 32 0 (20 + 35 * n + 4) 0 32 0 2 = nI n := by
            rw [oUp_j (by omega), oUp_j (by omega), oUp_j (by omega), oUp_j (by omega), oUp_j (by omega)]
            exact hM
          rw [h2, nI_1, oUp_self, nI_pred]
          have ne4 : ¬ D K_M_now 0 2 = 4 := by
            rw [hS]
            exact h39
          refine oQM.row (k := K_M_now) (f := n_deed (D K_M_now 0) n b y s) (by decide) hD ?_ ((((((oFr.rf.up ⟨rfl, rfl⟩).up ⟨rfl, rfl⟩).up ⟨rfl, rfl⟩).up ⟨rfl, rfl⟩).up ⟨rfl, rfl⟩).up ⟨rfl, rfl⟩) ?_
          · unfold s_deed
            rw [show f_Oak_isCell b = f_Mod_isCell b from rfl, show f_Oak_isWithin y 0 999 = f_Mod_in y 0 999 from rfl, show f_Oak_isWithin s (-9) 9 = f_Mod_in s (-9) 9 from rfl, if_neg h4, if_neg h15, if_neg h26, if_neg ne4, hn, hS]
          · rw [oUp_upd, oUp_upd, oUp_upd, oUp_upd, oUp_upd, oUp_upd, ← hN]
            rfl
        · refine oRun_ok 1 rfl ?_
          exact g_iret rfl rfl rfl (oQM.same hD ((if_neg h4).trans ((if_neg h15).trans ((if_neg h26).trans (if_pos (by rw [hS]; exact h39))))))
      · refine oRun_ok 1 rfl ?_
        exact g_iret rfl rfl rfl (oQM.same hD ((if_neg h4).trans ((if_neg h15).trans (if_pos h26))))

