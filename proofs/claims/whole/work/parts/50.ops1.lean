/-! ===== stones, deeds: both sides ===== -/
abbrev vBAD : Int32 := -1000000001
abbrev vNO : Int32 := -1000000002
abbrev vFULL : Int32 := -1000000003
abbrev vNONE : Int32 := -1000000005
abbrev vNOTHING : Int32 := -1000000011
abbrev vKIND : Int32 := -1000000012
abbrev vINDEX : Int32 := -1000000013
abbrev vSIZE : Int32 := -1000000014
theorem oI.st {C D : oM} (h : oI C D) : C K_LAND 0 1 = D K_M_now 0 1 := h.rl.1
theorem oI.dd {C D : oM} (h : oI C D) : C K_LAND 0 4 = D K_M_now 0 2 := h.rl.2.1
theorem oI.tx {C D : oM} (h : oI C D) : C K_LAND 0 6 = D K_M_now 0 3 := h.rl.2.2.1
theorem oI.zz {C D : oM} (h : oI C D) : C K_LAND 0 7 = D K_M_now 0 0 := h.rl.2.2.2.1
theorem oI.sxy {C D : oM} (h : oI C D) {i : Nat} (hi : i < cS (D K_M_now 0)) : C K_STX 0 i = D K_M_now 0 (4 + 2 * i) ∧ C K_STY 0 i = D K_M_now 0 (4 + 2 * i + 1) := h.rl.2.2.2.2.1 i hi
theorem oI.rd {C D : oM} (h : oI C D) {d : Nat} (hd : d < cD (D K_M_now 0)) : oRD C (D K_M_now 0) (4 * 0 + d) d := h.rl.2.2.2.2.2.1 d hd
theorem oI.dok {C D : oM} (h : oI C D) {d : Nat} (hd : d < cD (D K_M_now 0)) : oDOk (D K_M_now 0) d := h.ok.2.2.2.2.1 d hd
theorem oPs.now {D M : oM} (h : oPs D M) : M K_M_now 0 = D K_M_now 0 := h.1 K_M_now (by decide)
theorem oHasD {C D : oM} {d : Int32} (hI : oI C D) (h : ¬ f_Oak_isWithin d 0 (D K_M_now 0 2 - 1) = 0) : ∃ j, j < cD (D K_M_now 0) ∧ j < 4 ∧ d = nI j ∧ (nI j).toNatClampNeg = j := by
  obtain ⟨hD, d4⟩ := oND hI.ok
  rw [hD] at h
  obtain ⟨j, hj, e⟩ := wiI (by omega) h
  exact ⟨j, hj, by omega, e, nIc (by omega)⟩
theorem oHasS {C D : oM} {d : Int32} (hI : oI C D) (h : ¬ f_Oak_isWithin d 0 (D K_M_now 0 1 - 1) = 0) : ∃ j, j < cS (D K_M_now 0) ∧ j < 8 ∧ d = nI j ∧ (nI j).toNatClampNeg = j := by
  obtain ⟨hD, d4⟩ := oNS hI.ok
  rw [hD] at h
  obtain ⟨j, hj, e⟩ := wiI (by omega) h
  exact ⟨j, hj, by omega, e, nIc (by omega)⟩
theorem upd_s {f : Nat → Int32} {k j : Nat} {x : Int32} : upd f k x j = if j = k then x else f j := rfl
/-- stones of the land -/
theorem oSt_ok {N N' : Nat → Int32} (hN : oNOk N) (hs : ∀ j, j = 0 ∨ j = 2 ∨ j = 3 ∨ 20 ≤ j → N' j = N j) (h1 : inR (N' 1) 0 8) (h2 : ∀ i, i < cS N' → inR (N' (4 + 2 * i)) (-99) 99 ∧ inR (N' (4 + 2 * i + 1)) (-99) 99) : oNOk N' := by
  obtain ⟨g1, g2, g3, g4, g5, g6⟩ := hN
  have e2 : cD N' = cD N := by unfold cD; rw [hs 2 (by omega)]
  have e3 : cT N' = cT N := by unfold cT; rw [hs 3 (by omega)]
  refine ⟨h1, by rw [hs 2 (by omega)]; exact g2, by rw [hs 3 (by omega)]; exact g3, h2, fun d hd => ?_, fun t ht => ?_⟩
  · rw [e2] at hd
    have h := g5 d hd
    have ec : cC N' d = cC N d := by unfold cC; rw [hs _ (by omega)]
    unfold oDOk at h ⊢
    rw [ec, hs (20 + 35 * d) (by omega), hs (20 + 35 * d + 1) (by omega), hs (20 + 35 * d + 2) (by omega), hs (20 + 35 * d + 3) (by omega), hs (20 + 35 * d + 4) (by omega)]
    refine ⟨h.1, h.2.1, h.2.2.1, h.2.2.2.1, h.2.2.2.2.1, fun j hj => ?_⟩
    rw [hs _ (by omega), hs _ (by omega), hs _ (by omega)]
    exact h.2.2.2.2.2 j hj
  · rw [e3] at ht
    have h := g6 t ht
    have ef : (fun k => N' (188 + 96 * t + k)) = (fun k => N (188 + 96 * t + k)) := by
      funext k
      exact hs _ (by omega)
    unfold oTOk tN tK at h ⊢
    rw [hs (160 + 2 * t) (by omega), ef]
    exact h
theorem oSt_rl {C C' : oM} {N N' : Nat → Int32} (hN : oNOk N) (hL : oRL C N 0) (hs : ∀ j, j = 2 ∨ j = 3 ∨ 20 ≤ j → N' j = N j) (hF : oFr (fun k i => i = 0 ∧ (k = K_LAND ∨ k = K_STX ∨ k = K_STY)) C C') (h1 : C' K_LAND 0 1 = N' 1) (h4 : C' K_LAND 0 4 = C K_LAND 0 4) (h6 : C' K_LAND 0 6 = C K_LAND 0 6) (h7 : C' K_LAND 0 7 = N' 0)
    (h2 : ∀ i, i < cS N' → C' K_STX 0 i = N' (4 + 2 * i) ∧ C' K_STY 0 i = N' (4 + 2 * i + 1)) : oRL C' N' 0 := by
  obtain ⟨l1, l2, l3, l4, l5, l6, l7⟩ := hL
  have e2 : cD N' = cD N := by unfold cD; rw [hs 2 (by omega)]
  have e3 : cT N' = cT N := by unfold cT; rw [hs 3 (by omega)]
  have ek : ∀ k ∈ [K_DEED, K_DK, K_DW, K_DL, K_TEXT, K_TCOD], ∀ i, C' k i = C k i := fun k hk i => hF k i (fun q => (by decide : ∀ k ∈ [K_DEED, K_DK, K_DW, K_DL, K_TEXT, K_TCOD], ¬ (k = K_LAND ∨ k = K_STX ∨ k = K_STY)) k hk q.2)
  refine ⟨h1, by rw [h4, hs 2 (by omega)]; exact l2, by rw [h6, hs 3 (by omega)]; exact l3, h7, h2, fun d hd => ?_, fun t ht => ?_⟩
  · rw [e2] at hd
    have h := l6 d hd
    have ec : cC N' d = cC N d := by unfold cC; rw [hs _ (by omega)]
    unfold oRD at h ⊢
    rw [ec, ek K_DEED (by decide), ek K_DK (by decide), ek K_DW (by decide), ek K_DL (by decide)]
    refine ⟨fun w hw => ?_, fun j hj => ?_⟩
    · rw [hs _ (by omega)]
      exact h.1 w hw
    · rw [hs _ (by omega), hs _ (by omega), hs _ (by omega)]
      exact h.2 j hj
  · rw [e3] at ht
    have h := l7 t ht
    have et : tN N' t = tN N t := by unfold tN; rw [hs _ (by omega)]
    have ekk : tK N' t = tK N t := by unfold tK; rw [hs _ (by omega)]
    unfold oRT at h ⊢
    rw [et, ekk, ek K_TEXT (by decide), ek K_TCOD (by decide), hs _ (by omega)]
    refine ⟨h.1, h.2.1, h.2.2.1, fun k hk => ?_⟩
    rw [hs _ (by omega)]
    exact h.2.2.2 k hk
theorem oSt_ld {k i : Nat} (h : i = 0 ∧ (k = K_LAND ∨ k = K_STX ∨ k = K_STY)) : oLd0 k i := Or.inl (Or.inl h)
theorem spot_in {x y : Int32} (h : ¬ f_Oak_isStonePlace x y = 0) : inR x (-99) 99 ∧ inR y (-99) 99 := by
  unfold f_Oak_isStonePlace at h
  by_cases a : f_Oak_isWithin x (-99) 99 = 0
  · exact absurd (if_pos a) h
  · rw [if_neg a] at h
    by_cases b : f_Oak_isWithin y (-99) 99 = 0
    · exact absurd (if_pos b) h
    · exact ⟨wiR a, wiR b⟩
-- stone
def s_stone (D : oM) (x y : Int32) : Int32 × oM := if f_Oak_isStonePlace x y = 0 then (vBAD, D) else if D K_M_now 0 1 = 8 then (vFULL, D) else (D K_M_now 0 1, oSR D K_M_now (upd (upd (upd (D K_M_now 0) (4 + 2 * cS (D K_M_now 0)) x) (4 + 2 * cS (D K_M_now 0) + 1) y) 1 (nI (cS (D K_M_now 0) + 1))))
theorem p_stone (M D : oM) (x y : Int32) (hI : oI M D) : oCt 3 k_Oak_stone [.inr (K_OAK, 0), .inl x, .inl y] M (oQC (s_stone D x y) M) := by
  obtain ⟨hS, s8⟩ := oNS hI.ok
  have hM : M K_LAND 0 1 = nI (cS (D K_M_now 0)) := hI.st.trans hS
  generalize hn : cS (D K_M_now 0) = n at hS s8 hM
  refine oCt.of (ls := [some (.inr (K_OAK, 0)), some (.inl x), some (.inl y)]) mok_Oak_stone rfl rfl ?_
  refine oRun_ok 2 rfl ?_
  refine g_callS rfl rfl rfl rfl mok_Oak_isStonePlace (by decide) (c_Oak_isStonePlace _ _ _) ?_
  rintro r2 M2 ⟨rfl, e⟩; rw [e]
  refine g_if_ne rfl (fun h5 => ?_) (fun h5 => ?_)
  · refine oRun_ok 4 rfl ?_
    rw [show M 1 0 1 = nI n from hM]
    refine g_ic_lt rfl (fun h20 => ?_) (fun h20 => ?_)
    · have hn8 : n < 8 := (nIlt (a := n) (b := 8) (by omega) (by omega)).mp h20
      refine oRun_ok 16 rfl ?_
      rw [show oUp M 1 0 1 (M 1 0 1 + 1) 1 0 1 - 1 = nI n by rw [oUp_self, show M 1 0 1 = nI n from hM, nI_1, nI_pred], show M 1 0 1 + 1 = nI (n + 1) by rw [show M 1 0 1 = nI n from hM, nI_1]]
      refine g_callV rfl rfl rfl rfl rfl mok_Land_putStone (by decide) (c_Land_putStone _ 0 n (n + 1) x y oUp_self (by omega) (by omega)) ?_
      rintro r54 M54 ⟨rfl, e⟩; rw [e]
      refine oRun_ok 5 rfl ?_
      refine g_iret rfl rfl rfl ?_
      rw [show oUp (oUp (oUp M 1 0 1 (nI (n + 1))) K_STX 0 n x) K_STY 0 n y 1 0 1 - 1 = nI n by rw [oUp_k (by decide), oUp_k (by decide), oUp_self, nI_pred]]
      have hx := spot_in h5
      have ne8 : ¬ D K_M_now 0 1 = 8 := by
        rw [hS, show (8 : Int32) = nI 8 from rfl, nIe (by omega) (by omega)]
        omega
      have c1 : cS (upd (upd (upd (D K_M_now 0) (4 + 2 * n) x) (4 + 2 * n + 1) y) 1 (nI (n + 1))) = n + 1 := by
        unfold cS
        rw [upd_eq, nIc (by omega)]
      refine oQC.land hI (N' := upd (upd (upd (D K_M_now 0) (4 + 2 * n) x) (4 + 2 * n + 1) y) 1 (nI (n + 1))) ?_ ?_ (oSt_ok hI.ok (fun j hj => ?_) ?_ (fun i hi => ?_)) (oSt_rl hI.ok hI.rl (fun j hj => ?_) ?_ ?_ ?_ ?_ ?_ (fun i hi => ?_)) ?_
      · unfold s_stone
        rw [if_neg h5, if_neg ne8, hn, hS]
      · exact ((oFr.rf.up (oSt_ld ⟨rfl, Or.inl rfl⟩)).up (oSt_ld ⟨rfl, Or.inr (Or.inl rfl)⟩)).up (oSt_ld ⟨rfl, Or.inr (Or.inr rfl)⟩)
      · rw [upd_ne (by omega), upd_ne (by omega), upd_ne (by omega)]
      · rw [upd_eq]
        exact ⟨by rw [nIt (by omega)]; omega, by rw [nIt (by omega)]; omega⟩
      · rw [c1] at hi
        by_cases z : i = n
        · subst z
          repeat (first | rw [upd_ne (by omega)] | rw [upd_eq])
          exact hx
        · repeat (first | rw [upd_ne (by omega)] | rw [upd_eq])
          exact hI.ok.2.2.2.1 i (by rw [hn]; omega)
      · rw [upd_ne (by omega), upd_ne (by omega), upd_ne (by omega)]
      · exact ((oFr.rf.up ⟨rfl, Or.inl rfl⟩).up ⟨rfl, Or.inr (Or.inl rfl)⟩).up ⟨rfl, Or.inr (Or.inr rfl)⟩
      · rw [oUp_k (by decide), oUp_k (by decide), upd_eq]
        exact oUp_self
      · rw [oUp_k (by decide), oUp_k (by decide)]
        exact oUp_j (by decide)
      · rw [oUp_k (by decide), oUp_k (by decide)]
        exact oUp_j (by decide)
      · rw [oUp_k (by decide), oUp_k (by decide), upd_ne (by omega), upd_ne (by omega), upd_ne (by omega)]
        exact (oUp_j (by decide)).trans hI.zz
      · rw [c1] at hi
        rw [oUp_k (k := K_STY) (k' := K_STX) (by decide), oUp_at, oUp_at]
        by_cases z : i = n
        · subst z
          repeat (first | rw [upd_ne (by omega)] | rw [upd_eq])
          exact ⟨if_pos rfl, if_pos rfl⟩
        · repeat (first | rw [upd_ne (by omega)] | rw [upd_eq])
          obtain ⟨a, b⟩ := hI.sxy (i := i) (by rw [hn]; omega)
          exact ⟨(if_neg z).trans a, (if_neg z).trans (by rw [oUp_k (by decide), oUp_k (by decide)]; exact b)⟩
      · unfold cT
        rw [upd_ne (by omega), upd_ne (by omega), upd_ne (by omega)]
        exact Nat.le_refl _
    · refine oRun_ok 1 rfl ?_
      refine g_iret rfl rfl rfl (oQC.same hI ((if_neg h5).trans (if_pos ?_)))
      rw [hS]
      rw [show (8 : Int32) = nI 8 from rfl, nIlt (by omega) (by omega)] at h20
      rw [show n = 8 by omega]
      rfl
  · refine oRun_ok 1 rfl ?_
    exact g_iret rfl rfl rfl (oQC.same hI (if_pos h5))
theorem q_stone (C M D : oM) (x y : Int32) (hI : oI C D) (hD : oPs D M) : oCt 3 k_Mod_stone [.inr (K_MOD, 0), .inl x, .inl y] M (oQM (s_stone D x y) M) := by
  obtain ⟨hS, s8⟩ := oNS hI.ok
  have hN := hD.now
  have hM : M K_M_now 0 1 = nI (cS (D K_M_now 0)) := by rw [hN]; exact hS
  generalize hn : cS (D K_M_now 0) = n at hS s8 hM
  refine oCt.of (ls := [some (.inr (K_MOD, 0)), some (.inl x), some (.inl y)]) mok_Mod_stone rfl rfl ?_
  refine oRun_ok 2 rfl ?_
  refine g_callS rfl rfl rfl rfl mok_Mod_isSpot (by decide) (c_Mod_isSpot _ _ _) ?_
  rintro r2 M2 ⟨rfl, e⟩; rw [e]
  refine g_if_ne rfl (fun h5 => ?_) (fun h5 => ?_)
  · refine oRun_ok 3 rfl ?_
    refine g_iald 1 rfl rfl rfl (by decide) ?_
    refine oRun_ok 1 rfl ?_
    refine g_ic_ne rfl (fun h19 => ?_) (fun h19 => ?_)
    · have hn8 : n < 8 := by
        have : ¬ n = 8 := fun z => h19 (by rw [show M 32 0 1 = nI n from hM, z]; rfl)
        omega
      refine oRun_ok 7 rfl ?_
      refine g_iald 1 rfl rfl rfl (by decide) ?_
      rw [show M 32 0 1 = nI n from hM]
      refine oRun_ok 3 rfl ?_
      refine g_iast (4 + 2 * n) rfl rfl (by simp only [L4, L2, nI_times, nI_plus]) (by omega) ?_
      refine oRun_ok 7 rfl ?_
      refine g_iald 1 rfl rfl rfl (by decide) ?_
      rw [show oUp M 32 0 (4 + 2 * n) x 32 0 1 = nI n by rw [oUp_j (by omega)]; exact hM]
      refine oRun_ok 5 rfl ?_
      refine g_iast (4 + 2 * n + 1) rfl rfl (by simp only [L4, L2, L1, nI_times, nI_plus]) (by omega) ?_
      refine oRun_ok 4 rfl ?_
      refine g_iald 1 rfl rfl rfl (by decide) ?_
      refine oRun_ok 2 rfl ?_
      refine g_iast 1 rfl rfl rfl (by decide) ?_
      refine oRun_ok 3 rfl ?_
      refine g_iald 1 rfl rfl rfl (by decide) ?_
      refine oRun_ok 2 rfl ?_
      refine g_iret rfl rfl rfl ?_
      rw [show oUp (oUp M 32 0 (4 + 2 * n) x) 32 0 (4 + 2 * n + 1) y 32 0 1 + 1 = nI (n + 1) by rw [oUp_j (by omega), oUp_j (by omega), show M 32 0 1 = nI n from hM, nI_1], oUp_self, nI_pred]
      have ne8 : ¬ D K_M_now 0 1 = 8 := by
        rw [← hN]
        exact h19
      refine oQM.row (k := K_M_now) (f := upd (upd (upd (D K_M_now 0) (4 + 2 * n) x) (4 + 2 * n + 1) y) 1 (nI (n + 1))) (by decide) hD ?_ (((oFr.rf.up ⟨rfl, rfl⟩).up ⟨rfl, rfl⟩).up ⟨rfl, rfl⟩) ?_
      · unfold s_stone
        rw [show f_Oak_isStonePlace x y = f_Mod_isSpot x y from rfl, if_neg h5, if_neg ne8, hn, hS]
      · rw [oUp_upd, oUp_upd, oUp_upd, ← hN]
    · refine oRun_ok 1 rfl ?_
      exact g_iret rfl rfl rfl (oQM.same hD ((if_neg h5).trans (if_pos (by rw [← hN]; exact h19))))
  · refine oRun_ok 1 rfl ?_
    exact g_iret rfl rfl rfl (oQM.same hD (if_pos h5))
-- stoneTold
def s_stoneTold (D : oM) (s w : Int32) : Int32 × oM := if f_Oak_isWithin s 0 (D K_M_now 0 1 - 1) = 0 then (vBAD, D) else if f_Oak_isWithin w 0 1 = 0 then (vBAD, D) else (D K_M_now 0 (4 + 2 * s.toNatClampNeg + w.toNatClampNeg), D)
theorem p_stoneTold (M D : oM) (s w : Int32) (hI : oI M D) : oCt 3 k_Oak_stoneTold [.inr (K_OAK, 0), .inl s, .inl w] M (oQC (s_stoneTold D s w) M) := by
  refine oCt.of (ls := [some (.inr (K_OAK, 0)), some (.inl s), some (.inl w)]) mok_Oak_stoneTold rfl rfl ?_
  refine oRun_ok 3 rfl ?_
  refine g_callV rfl rfl rfl rfl rfl mok_Land_hasStone (by decide) (c_Land_hasStone _ 0 _) ?_
  rintro r5 M5 ⟨rfl, e⟩; rw [e]
  rw [hI.st]
  refine g_if_eq rfl (fun h8 => ?_) (fun h8 => ?_)
  · refine oRun_ok 1 rfl ?_
    exact g_iret rfl rfl rfl (oQC.same hI (if_pos h8))
  · refine oRun_ok 3 rfl ?_
    refine g_callS rfl rfl rfl rfl mok_Oak_isWithin (by decide) (c_Oak_isWithin _ _ _ _) ?_
    rintro r14 M14 ⟨rfl, e⟩; rw [e]
    refine g_if_ne rfl (fun h17 => ?_) (fun h17 => ?_)
    · obtain ⟨i, hi, hi8, rfl, ei⟩ := oHasS hI h8
      obtain ⟨v, hv, rfl⟩ := wiI (m := 2) (v := w) (by decide) h17
      have hv2 : v = 0 ∨ v = 1 := by omega
      obtain ⟨a, b⟩ := hI.sxy hi
      have fin : s_stoneTold D (nI i) (nI v) = (D K_M_now 0 (4 + 2 * i + v), D) := by
        unfold s_stoneTold
        rw [if_neg h8, if_neg h17, ei, nIc (by omega)]
      refine oRun_ok 1 rfl ?_
      refine g_if_ne rfl (fun h24 => ?_) (fun h24 => ?_)
      · obtain rfl : v = 1 := hv2.resolve_left (fun z => h24 (by rw [z]; rfl))
        refine oRun_ok 4 rfl ?_
        refine g_iald i rfl rfl rfl hi8 ?_
        exact g_iret rfl rfl rfl (oQC.same hI (by rw [fin]; exact congrArg (fun z => (z, D)) b.symm))
      · obtain rfl : v = 0 := hv2.resolve_right (fun z => by rw [z] at h24; exact absurd h24 (by decide))
        refine oRun_ok 4 rfl ?_
        refine g_iald i rfl rfl rfl hi8 ?_
        refine oRun_ok 1 rfl ?_
        exact g_iret rfl rfl rfl (oQC.same hI (by rw [fin]; exact congrArg (fun z => (z, D)) a.symm))
    · refine oRun_ok 1 rfl ?_
      exact g_iret rfl rfl rfl (oQC.same hI ((if_neg h8).trans (if_pos h17)))
theorem q_stoneTold (C M D : oM) (s w : Int32) (hI : oI C D) (hD : oPs D M) : oCt 3 k_Mod_stoneTold [.inr (K_MOD, 0), .inl s, .inl w] M (oQM (s_stoneTold D s w) M) := by
  have hN := hD.now
  refine oCt.of (ls := [some (.inr (K_MOD, 0)), some (.inl s), some (.inl w)]) mok_Mod_stoneTold rfl rfl ?_
  refine oRun_ok 2 rfl ?_
  refine g_callV rfl rfl rfl rfl rfl mok_Mod_isStone (by decide) (c_Mod_isStone _ _) ?_
  rintro r2 M2 ⟨rfl, e⟩; rw [e]
  rw [hN]
  refine g_if_eq rfl (fun h5 => ?_) (fun h5 => ?_)
  · refine oRun_ok 1 rfl ?_
    exact g_iret rfl rfl rfl (oQM.same hD (if_pos h5))
  · refine oRun_ok 3 rfl ?_
    refine g_callS rfl rfl rfl rfl mok_Mod_in (by decide) (c_Mod_in _ _ _ _) ?_
    rintro r11 M11 ⟨rfl, e⟩; rw [e]
    refine g_if_eq rfl (fun h14 => ?_) (fun h14 => ?_)
    · refine oRun_ok 1 rfl ?_
      exact g_iret rfl rfl rfl (oQM.same hD ((if_neg h5).trans (if_pos h14)))
    · have h14 : ¬ f_Oak_isWithin w 0 1 = 0 := h14
      obtain ⟨i, hi, hi8, rfl, ei⟩ := oHasS hI h5
      obtain ⟨v, hv, rfl⟩ := wiI (m := 2) (v := w) (by decide) h14
      refine oRun_ok 9 rfl ?_
      refine g_iald (4 + 2 * i + v) rfl rfl (by simp only [L4, L2, nI_times, nI_plus]) (by omega) ?_
      refine oRun_ok 1 rfl ?_
      exact g_iret rfl rfl rfl (oQM.same hD (by unfold s_stoneTold; rw [if_neg h5, if_neg h14, ei, nIc (by omega), ← hN]))

