/-! ===== corner, gap, area, holds, field ===== -/
def s_corner (D : oM) (d i w : Int32) : Int32 × oM := if f_Oak_isWithin d 0 (D K_M_now 0 2 - 1) = 0 then (vBAD, D) else if i < 0 then (vBAD, D) else if f_Oak_isWithin w 0 1 = 0 then (vBAD, D)
  else if i.toNatClampNeg ≤ cC (D K_M_now 0) d.toNatClampNeg then (if w = 0 then ((sC (D K_M_now 0) d.toNatClampNeg (sNd (D K_M_now 0) d.toNatClampNeg) (sCh (D K_M_now 0) d.toNatClampNeg) i.toNatClampNeg).1, D) else ((sC (D K_M_now 0) d.toNatClampNeg (sNd (D K_M_now 0) d.toNatClampNeg) (sCh (D K_M_now 0) d.toNatClampNeg) i.toNatClampNeg).2, D)) else (vNONE, D)
theorem p_corner (M D : oM) (d i w : Int32) (hI : oI M D) : oCt 5 k_Oak_corner [.inr (K_OAK, 0), .inl d, .inl i, .inl w] M (oQC (s_corner D d i w) M) := by
  refine oCt.of (ls := [some (.inr (K_OAK, 0)), some (.inl d), some (.inl i), some (.inl w)]) mok_Oak_corner rfl rfl ?_
  refine oRun_ok 3 rfl ?_
  refine g_callV rfl rfl rfl rfl rfl mok_Land_hasDeed (by decide) (c_Land_hasDeed _ 0 _) ?_
  rintro r5 M5 ⟨rfl, e⟩; rw [e]
  rw [hI.dd]
  refine g_if_eq rfl (fun h8 => ?_) (fun h8 => ?_)
  · refine oRun_ok 1 rfl ?_
    exact g_iret rfl rfl rfl (oQC.same hI (if_pos h8))
  · refine oRun_ok 1 rfl ?_
    refine g_if_lt rfl (fun h12 => ?_) (fun h12 => ?_)
    · refine oRun_ok 1 rfl ?_
      exact g_iret rfl rfl rfl (oQC.same hI ((if_neg h8).trans (if_pos h12)))
    · refine oRun_ok 3 rfl ?_
      refine g_callS rfl rfl rfl rfl mok_Oak_isWithin (by decide) (c_Oak_isWithin _ _ _ _) ?_
      rintro r18 M18 ⟨rfl, e⟩; rw [e]
      refine g_if_ne rfl (fun h21 => ?_) (fun h21 => ?_)
      · obtain ⟨j, hj, hj4, rfl, ej⟩ := oHasD hI h8
        obtain ⟨hC, c10⟩ := oNC (hI.dok hj)
        have i0 : 0 ≤ i.toInt := iLe.mp (Int32.not_lt.mp h12)
        have ir := iRng i
        have ei := nI_ofInt i0
        have ci : i.toNatClampNeg = i.toInt.toNat := rfl
        generalize hk : i.toInt.toNat = k at ei ci
        have k31 : k < 2147483648 := by omega
        have fin : s_corner D (nI j) i w = if k ≤ cC (D K_M_now 0) j then (if w = 0 then ((sC (D K_M_now 0) j (sNd (D K_M_now 0) j) (sCh (D K_M_now 0) j) k).1, D) else ((sC (D K_M_now 0) j (sNd (D K_M_now 0) j) (sCh (D K_M_now 0) j) k).2, D)) else (vNONE, D) := (if_neg h8).trans ((if_neg h12).trans ((if_neg h21).trans (by rw [ej, ci])))
        refine oRun_ok 3 rfl ?_
        refine g_callV rfl rfl rfl rfl rfl mok_Walk_traceDeed (by decide) (c_Walk_traceDeed _ _ 0 j hI.ok hI.rl hj) ?_
        rintro r M' ⟨rfl, f1, f2, f3⟩
        refine oRun_ok 4 rfl ?_
        rw [show M' 9 0 3 = _ from f1]
        refine g_ic_lt rfl (fun h43 => ?_) (fun h43 => ?_)
        · rw [ei, nIlt k31 (by omega)] at h43
          rw [if_pos (by omega)] at fin
          refine oRun_ok 1 rfl ?_
          refine g_if_ne rfl (fun h50 => ?_) (fun h50 => ?_)
          · refine oRun_ok 4 rfl ?_
            refine g_iald k rfl rfl ei (by omega) ?_
            exact g_iret rfl rfl rfl (oQC.look hI (by rw [fin, if_neg h50, show M' 11 0 k = _ from (f2 k (by omega)).2]) f3.ws)
          · refine oRun_ok 4 rfl ?_
            refine g_iald k rfl rfl ei (by omega) ?_
            refine oRun_ok 1 rfl ?_
            exact g_iret rfl rfl rfl (oQC.look hI (by rw [fin, if_pos h50, show M' 10 0 k = _ from (f2 k (by omega)).1]) f3.ws)
        · rw [ei, nIlt k31 (by omega)] at h43
          rw [if_neg (by omega)] at fin
          refine oRun_ok 1 rfl ?_
          exact g_iret rfl rfl rfl (oQC.look hI fin f3.ws)
      · refine oRun_ok 1 rfl ?_
        exact g_iret rfl rfl rfl (oQC.same hI ((if_neg h8).trans ((if_neg h12).trans (if_pos h21))))
theorem q_corner (C M D : oM) (d i w : Int32) (hI : oI C D) (hD : oPs D M) : oCt 6 k_Mod_corner [.inr (K_MOD, 0), .inl d, .inl i, .inl w] M (oQM (s_corner D d i w) M) := by
  have hN := hD.now
  refine oCt.of (ls := [some (.inr (K_MOD, 0)), some (.inl d), some (.inl i), some (.inl w), none]) mok_Mod_corner rfl rfl ?_
  refine oRun_ok 2 rfl ?_
  refine g_callV rfl rfl rfl rfl rfl mok_Mod_isDeed (by decide) (c_Mod_isDeed _ _) ?_
  rintro r2 M2 ⟨rfl, e⟩; rw [e]
  rw [hN]
  refine g_if_eq rfl (fun h5 => ?_) (fun h5 => ?_)
  · refine oRun_ok 1 rfl ?_
    exact g_iret rfl rfl rfl (oQM.same hD (if_pos h5))
  · refine oRun_ok 1 rfl ?_
    refine g_if_lt rfl (fun h9 => ?_) (fun h9 => ?_)
    · refine oRun_ok 1 rfl ?_
      exact g_iret rfl rfl rfl (oQM.same hD ((if_neg h5).trans (if_pos h9)))
    · refine oRun_ok 3 rfl ?_
      refine g_callS rfl rfl rfl rfl mok_Mod_in (by decide) (c_Mod_in _ _ _ _) ?_
      rintro r15 M15 ⟨rfl, e⟩; rw [e]
      refine g_if_ne rfl (fun h18 => ?_) (fun h18 => ?_)
      · obtain ⟨j, hj, hj4, rfl, ej⟩ := oHasD hI h5
        obtain ⟨hC, c10⟩ := oNC (hI.dok hj)
        have i0 : 0 ≤ i.toInt := iLe.mp (Int32.not_lt.mp h9)
        have ir := iRng i
        have ei := nI_ofInt i0
        have ci : i.toNatClampNeg = i.toInt.toNat := rfl
        generalize hk : i.toInt.toNat = k at ei ci
        have k31 : k < 2147483648 := by omega
        have fin : s_corner D (nI j) i w = if k ≤ cC (D K_M_now 0) j then (if w = 0 then ((sC (D K_M_now 0) j (sNd (D K_M_now 0) j) (sCh (D K_M_now 0) j) k).1, D) else ((sC (D K_M_now 0) j (sNd (D K_M_now 0) j) (sCh (D K_M_now 0) j) k).2, D)) else (vNONE, D) := (if_neg h5).trans ((if_neg h9).trans ((if_neg h18).trans (by rw [ej, ci])))
        refine oRun_ok 2 rfl ?_
        refine g_callV rfl rfl rfl rfl rfl mok_Mod_findCorners (by decide) (c_Mod_findCorners _ _ j hN hI.ok hj) ?_
        rintro r M' ⟨rfl, f1, f2, f3, f4, f5⟩
        have mm := oMs_mf f5 f2
        refine oRun_ok 4 rfl ?_
        rw [show M' 31 0 7 = _ from f1]
        refine g_ic_le rfl (fun h36 => ?_) (fun h36 => ?_)
        · rw [ei, nIle k31 (by omega)] at h36
          rw [if_pos (by omega)] at fin
          refine oRun_ok 1 rfl ?_
          refine g_if_ne rfl (fun h45 => ?_) (fun h45 => ?_)
          · refine oRun_ok 3 rfl ?_
            refine g_iald k rfl rfl ei (by omega) ?_
            exact g_iret rfl rfl rfl (oQM.look hD (by rw [fin, if_neg h45, show M' 39 0 k = _ from (f3 k (by omega)).2]) mm)
          · refine oRun_ok 3 rfl ?_
            refine g_iald k rfl rfl ei (by omega) ?_
            refine oRun_ok 1 rfl ?_
            exact g_iret rfl rfl rfl (oQM.look hD (by rw [fin, if_pos h45, show M' 38 0 k = _ from (f3 k (by omega)).1]) mm)
        · rw [ei, nIle k31 (by omega)] at h36
          rw [if_neg (by omega)] at fin
          refine oRun_ok 2 rfl ?_
          exact g_iret rfl rfl rfl (oQM.look hD fin mm)
      · refine oRun_ok 1 rfl ?_
        exact g_iret rfl rfl rfl (oQM.same hD ((if_neg h5).trans ((if_neg h9).trans (if_pos h18))))
-- gap
def s_gap (D : oM) (d : Int32) : Int32 × oM := if f_Oak_isWithin d 0 (D K_M_now 0 2 - 1) = 0 then (vBAD, D) else (sGap (D K_M_now 0) d.toNatClampNeg (sNd (D K_M_now 0) d.toNatClampNeg) (sCh (D K_M_now 0) d.toNatClampNeg), D)
theorem oKs_kp : ∀ k ∈ oRLk, ∀ i, ¬ oKs K_LSTK k i := fun k hk i q => by
  have q : k = K_LSTK := q
  rw [q] at hk
  revert hk
  decide
theorem p_gap (M D : oM) (d : Int32) (hI : oI M D) : oCt 5 k_Oak_gap [.inr (K_OAK, 0), .inl d] M (oQC (s_gap D d) M) := by
  refine oCt.of (ls := [some (.inr (K_OAK, 0)), some (.inl d)]) mok_Oak_gap rfl rfl ?_
  refine oRun_ok 3 rfl ?_
  refine g_callV rfl rfl rfl rfl rfl mok_Land_hasDeed (by decide) (c_Land_hasDeed _ 0 _) ?_
  rintro r5 M5 ⟨rfl, e⟩; rw [e]
  rw [hI.dd]
  refine g_if_ne rfl (fun h8 => ?_) (fun h8 => ?_)
  · obtain ⟨j, hj, hj4, rfl, ej⟩ := oHasD hI h8
    refine oRun_ok 6 rfl ?_
    refine g_callV rfl rfl rfl rfl rfl mok_Land_needleOf (by decide) (c_Land_needleOf _ _ 0 j hI.ok hI.rl hj) ?_
    rintro r1 M1 ⟨rfl, f1⟩
    refine oRun_ok 3 rfl ?_
    refine g_callV rfl rfl rfl rfl rfl mok_Land_chainOf (by decide) (c_Land_chainOf _ _ 0 j hI.ok (oRL_kp (f1.kp oKs_kp) hI.rl) hj) ?_
    rintro r2 M2 ⟨rfl, f2⟩
    obtain ⟨nd, hnd, en⟩ := sNd_lt (D K_M_now 0) j
    rw [en]
    refine g_callV rfl rfl rfl rfl rfl mok_Walk_gapBy (by decide) (c_Walk_gapBy _ _ 0 j nd _ hI.ok (oRL_kp (f2.kp oKs_kp) (oRL_kp (f1.kp oKs_kp) hI.rl)) hj hnd) ?_
    rintro r3 M3 ⟨rfl, -, -, -, f3⟩
    exact g_iret rfl rfl rfl (oQC.look hI ((if_neg h8).trans (by rw [ej, en])) ((f1.lk.tr f2.lk).tr f3.wk))
  · refine oRun_ok 1 rfl ?_
    exact g_iret rfl rfl rfl (oQC.same hI (if_pos h8))
theorem q_gap (C M D : oM) (d : Int32) (hI : oI C D) (hD : oPs D M) : oCt 6 k_Mod_gap [.inr (K_MOD, 0), .inl d] M (oQM (s_gap D d) M) := by
  have hN := hD.now
  refine oCt.of (ls := [some (.inr (K_MOD, 0)), some (.inl d)]) mok_Mod_gap rfl rfl ?_
  refine oRun_ok 2 rfl ?_
  refine g_callV rfl rfl rfl rfl rfl mok_Mod_isDeed (by decide) (c_Mod_isDeed _ _) ?_
  rintro r2 M2 ⟨rfl, e⟩; rw [e]
  rw [hN]
  refine g_if_eq rfl (fun h5 => ?_) (fun h5 => ?_)
  · refine oRun_ok 1 rfl ?_
    exact g_iret rfl rfl rfl (oQM.same hD (if_pos h5))
  · obtain ⟨j, hj, hj4, rfl, ej⟩ := oHasD hI h5
    refine oRun_ok 2 rfl ?_
    refine g_callV rfl rfl rfl rfl rfl mok_Mod_findCorners (by decide) (c_Mod_findCorners _ _ j hN hI.ok hj) ?_
    rintro r M' ⟨rfl, f1, f2, f3, f4, f5⟩
    refine oRun_ok 1 rfl ?_
    exact g_iret rfl rfl rfl (oQM.look hD ((if_neg h5).trans (by rw [ej])) (oMs_mf f5 f2))
-- area
theorem sAr_cg {cx cy cx' cy' : Nat → Int32} {n : Nat} (h : ∀ j, j < n → cx j = cx' j ∧ cy j = cy' j) : ∀ (k : Nat), k ≤ n → sAr cx cy n k = sAr cx' cy' n k
  | 0, _ => rfl
  | k + 1, hk => by
    have h0 := h k (by omega)
    have h1 := h (if k + 1 = n then 0 else k + 1) (by split <;> omega)
    rw [sAr, sAr, sAr_cg h k (by omega), h0.1, h0.2, h1.1, h1.2]
theorem sHx_cg {cx cy cx' cy' : Nat → Int32} {n : Nat} {x y : Int} (h : ∀ j, j < n → cx j = cx' j ∧ cy j = cy' j) : ∀ (k : Nat), k ≤ n → sHx cx cy n x y k = sHx cx' cy' n x y k
  | 0, _ => rfl
  | k + 1, hk => by
    have h0 := h k (by omega)
    have h1 := h (if k + 1 = n then 0 else k + 1) (by split <;> omega)
    rw [sHx, sHx, sHx_cg h k (by omega), h0.1, h0.2, h1.1, h1.2]
def sArea (N : Nat → Int32) (d : Nat) : Int32 := sAr (fun j => (sC N d (sNd N d) (sCh N d) j).1) (fun j => (sC N d (sNd N d) (sCh N d) j).2) (cC N d + 1) (cC N d + 1)
def s_area (D : oM) (d : Int32) : Int32 × oM := if f_Oak_isWithin d 0 (D K_M_now 0 2 - 1) = 0 then (vBAD, D) else (sArea (D K_M_now 0) d.toNatClampNeg, D)
theorem p_area (M D : oM) (d : Int32) (hI : oI M D) : oCt 5 k_Oak_area [.inr (K_OAK, 0), .inl d] M (oQC (s_area D d) M) := by
  refine oCt.of (ls := [some (.inr (K_OAK, 0)), some (.inl d)]) mok_Oak_area rfl rfl ?_
  refine oRun_ok 3 rfl ?_
  refine g_callV rfl rfl rfl rfl rfl mok_Land_hasDeed (by decide) (c_Land_hasDeed _ 0 _) ?_
  rintro r5 M5 ⟨rfl, e⟩; rw [e]
  rw [hI.dd]
  refine g_if_ne rfl (fun h8 => ?_) (fun h8 => ?_)
  · obtain ⟨j, hj, hj4, rfl, ej⟩ := oHasD hI h8
    obtain ⟨hC, c10⟩ := oNC (hI.dok hj)
    refine oRun_ok 3 rfl ?_
    refine g_callV rfl rfl rfl rfl rfl mok_Walk_traceDeed (by decide) (c_Walk_traceDeed _ _ 0 j hI.ok hI.rl hj) ?_
    rintro r M' ⟨rfl, f1, f2, f3⟩
    refine oRun_ok 2 rfl ?_
    refine g_callV rfl rfl rfl rfl rfl mok_Walk_twiceArea (by decide) (c_Walk_twiceArea _ 0 _ f1 (by omega)) ?_
    rintro r26 M26 ⟨rfl, e⟩; rw [e]
    refine g_iret rfl rfl rfl (oQC.look hI ((if_neg h8).trans ?_) f3.ws)
    rw [ej, sAr_cg (fun x hx => f2 x (by omega)) _ (Nat.le_refl _)]
    rfl
  · refine oRun_ok 1 rfl ?_
    exact g_iret rfl rfl rfl (oQC.same hI (if_pos h8))
theorem q_area (C M D : oM) (d : Int32) (hI : oI C D) (hD : oPs D M) : oCt 6 k_Mod_area [.inr (K_MOD, 0), .inl d] M (oQM (s_area D d) M) := by
  have hN := hD.now
  refine oCt.of (ls := [some (.inr (K_MOD, 0)), some (.inl d), none, none, none, none]) mok_Mod_area rfl rfl ?_
  refine oRun_ok 2 rfl ?_
  refine g_callV rfl rfl rfl rfl rfl mok_Mod_isDeed (by decide) (c_Mod_isDeed _ _) ?_
  rintro r2 M2 ⟨rfl, e⟩; rw [e]
  rw [hN]
  refine g_if_ne rfl (fun h5 => ?_) (fun h5 => ?_)
  · obtain ⟨j, hj, hj4, rfl, ej⟩ := oHasD hI h5
    obtain ⟨hC, c10⟩ := oNC (hI.dok hj)
    refine oRun_ok 2 rfl ?_
    refine g_callV rfl rfl rfl rfl rfl mok_Mod_findCorners (by decide) (c_Mod_findCorners _ _ j hN hI.ok hj) ?_
    rintro r M' ⟨rfl, f1, f2, f3, f4, f5⟩
    refine oRun_ok 5 rfl ?_
    have fin : s_area D (nI j) = (sArea (D K_M_now 0) j, D) := (if_neg h5).trans (by rw [ej])
    have eA : sArea (D K_M_now 0) j = sAr (M' 38 0) (M' 39 0) (cC (D K_M_now 0) j + 1) (cC (D K_M_now 0) j + 1) := by
      unfold sArea
      exact (sAr_cg (fun x hx => f3 x (by omega)) _ (Nat.le_refl _)).symm
    rw [eA] at fin
    have mm := oMs_mf f5 f2
    have e7 : M' 31 0 7 = nI (cC (D K_M_now 0) j) := f1
    generalize cC (D K_M_now 0) j = c at *
    generalize sGap (D K_M_now 0) j (sNd (D K_M_now 0) j) (sCh (D K_M_now 0) j) = gp
    have loop : ∀ (q k : Nat) (x5 : Option oV), k + q = c + 1 → oG k_Mod_area 6 22 [some (.inr (K_MOD, 0)), some (.inl (nI j)), some (.inl gp), some (.inl (sAr (M' 38 0) (M' 39 0) (c + 1) k)), some (.inl (nI k)), x5] [] M' (oQM (s_area D (nI j)) M) := by
      intro q
      induction q with
      | zero =>
        intro k x5 hk
        obtain rfl : k = c + 1 := by omega
        refine oRun_ok 3 rfl ?_
        rw [e7]
        refine g_ic_gt rfl (fun _ => ?_) (fun h => absurd ((nIlt (by omega) (by omega)).mpr (by omega)) h)
        refine oRun_ok 1 rfl ?_
        exact g_iret rfl rfl rfl (oQM.look hD fin mm)
      | succ q ih =>
        intro k x5 hk
        refine oRun_ok 3 rfl ?_
        rw [e7]
        refine g_ic_gt rfl (fun h => ?_) (fun _ => ?_)
        · rw [nIlt (by omega) (by omega)] at h
          omega
        have from48 : ∀ o, o ≤ c → (if k + 1 = c + 1 then 0 else k + 1) = o → oG k_Mod_area 6 48 [some (.inr (K_MOD, 0)), some (.inl (nI j)), some (.inl gp), some (.inl (sAr (M' 38 0) (M' 39 0) (c + 1) k)), some (.inl (nI k)), x5] [.inl (nI o)] M' (oQM (s_area D (nI j)) M) := by
          intro o ho eo
          refine oRun_ok 5 rfl ?_
          refine g_iald k rfl rfl rfl (by omega) ?_
          refine oRun_ok 3 rfl ?_
          refine g_iald o rfl rfl rfl (by omega) ?_
          refine oRun_ok 4 rfl ?_
          refine g_iald k rfl rfl rfl (by omega) ?_
          refine oRun_ok 3 rfl ?_
          refine g_iald o rfl rfl rfl (by omega) ?_
          refine oRun_ok 6 rfl ?_
          rw [nI_1]
          have hs : sAr (M' 38 0) (M' 39 0) (c + 1) k + (M' 38 0 k * M' 39 0 o - M' 39 0 k * M' 38 0 o) = sAr (M' 38 0) (M' 39 0) (c + 1) (k + 1) := by
            rw [sAr, eo]
          rw [hs]
          exact ih (k + 1) _ (by omega)
        refine oRun_ok 3 rfl ?_
        rw [e7]
        refine g_ic_ne rfl (fun h => ?_) (fun h => ?_)
        · rw [nIe (by omega) (by omega)] at h
          refine oRun_ok 3 rfl ?_
          rw [nI_1]
          exact from48 (k + 1) (by omega) (if_neg (by omega))
        · rw [nIe (by omega) (by omega)] at h
          refine oRun_ok 2 rfl ?_
          exact from48 0 (by omega) (if_pos (by omega))
    exact loop (c + 1) 0 _ (by omega)
  · refine oRun_ok 1 rfl ?_
    exact g_iret rfl rfl rfl (oQM.same hD (if_pos h5))
-- holds
def s_holds (D : oM) (d c : Int32) : Int32 × oM := if f_Oak_isWithin d 0 (D K_M_now 0 2 - 1) = 0 then (vBAD, D) else if f_Oak_isCell c = 0 then (vBAD, D) else (bI (sHeld (D K_M_now 0) d.toNatClampNeg (c / 100).toInt (oRem c 100).toInt), D)
theorem p_holds (M D : oM) (d c : Int32) (hI : oI M D) : oCt 6 k_Oak_holds [.inr (K_OAK, 0), .inl d, .inl c] M (oQC (s_holds D d c) M) := by
  refine oCt.of (ls := [some (.inr (K_OAK, 0)), some (.inl d), some (.inl c)]) mok_Oak_holds rfl rfl ?_
  refine oRun_ok 3 rfl ?_
  refine g_callV rfl rfl rfl rfl rfl mok_Land_hasDeed (by decide) (c_Land_hasDeed _ 0 _) ?_
  rintro r5 M5 ⟨rfl, e⟩; rw [e]
  rw [hI.dd]
  refine g_if_eq rfl (fun h8 => ?_) (fun h8 => ?_)
  · refine oRun_ok 1 rfl ?_
    exact g_iret rfl rfl rfl (oQC.same hI (if_pos h8))
  · refine oRun_ok 1 rfl ?_
    refine g_callS rfl rfl rfl rfl mok_Oak_isCell (by decide) (c_Oak_isCell _ _) ?_
    rintro r12 M12 ⟨rfl, e⟩; rw [e]
    refine g_if_ne rfl (fun h15 => ?_) (fun h15 => ?_)
    · obtain ⟨j, hj, hj4, rfl, ej⟩ := oHasD hI h8
      obtain ⟨x, y, hx, hy, ex, ey⟩ := cell_in h15
      have fin : s_holds D (nI j) c = (bI (sHeld (D K_M_now 0) j x y), D) := (if_neg h8).trans ((if_neg h15).trans (by rw [ej, ex, ey, nIt (by omega), nIt (by omega)]))
      refine oRun_ok 5 rfl ?_
      refine g_callV rfl rfl rfl rfl rfl mok_Cells_fillDeed (by decide) (c_Cells_fillDeed _ _ 0 0 j hI.ok hI.rl hj) ?_
      rintro r M' ⟨rfl, f1, f2⟩
      refine oRun_ok 9 rfl ?_
      rw [ex, ey]
      refine g_callV rfl rfl rfl rfl rfl mok_Cells_isHeld (by decide) (c_Cells_isHeld _ 0 j x y hj4 hx hy) ?_
      rintro r46 M46 ⟨rfl, e⟩; rw [e]
      rw [f1 y hy x, decide_eq_true hx, Bool.true_and]
      refine g_if_eq rfl (fun h49 => ?_) (fun h49 => ?_)
      · refine oRun_ok 1 rfl ?_
        exact g_iret rfl rfl rfl (oQC.look hI (by rw [fin, bI_eq0.mp h49]; rfl) f2.cs)
      · refine oRun_ok 2 rfl ?_
        exact g_iret rfl rfl rfl (oQC.look hI (by rw [fin, bI_ne.mp h49]; rfl) f2.cs)
    · refine oRun_ok 1 rfl ?_
      exact g_iret rfl rfl rfl (oQC.same hI ((if_neg h8).trans (if_pos h15)))
theorem held_find {N : Nat → Int32} {M' : oM} {d : Nat} {x y : Int} (f3 : ∀ j, j ≤ cC N d → M' K_M_cornerX 0 j = (sC N d (sNd N d) (sCh N d) j).1 ∧ M' K_M_cornerY 0 j = (sC N d (sNd N d) (sCh N d) j).2) : sHx (M' K_M_cornerX 0) (M' K_M_cornerY 0) (cC N d + 1) x y (cC N d + 1) = sHeld N d x y := by
  unfold sHeld
  exact sHx_cg (fun j hj => f3 j (by omega)) _ (Nat.le_refl _)
theorem far_find {N : Nat → Int32} {M' : oM} {d : Nat} (hN : oNOk N) (hd : d < cD N) (f3 : ∀ j, j ≤ cC N d → M' K_M_cornerX 0 j = (sC N d (sNd N d) (sCh N d) j).1 ∧ M' K_M_cornerY 0 j = (sC N d (sNd N d) (sCh N d) j).2) : ∀ j, j ≤ cC N d → inR (M' K_M_cornerX 0 j) (-309) 309 ∧ inR (M' K_M_cornerY 0 j) (-309) 309 := by
  intro j hj
  rw [(f3 j hj).1, (f3 j hj).2]
  exact sC_far hN hd (sCh_rng hN hd) hj
theorem q_holds (C M D : oM) (d c : Int32) (hI : oI C D) (hD : oPs D M) : oCt 6 k_Mod_holds [.inr (K_MOD, 0), .inl d, .inl c] M (oQM (s_holds D d c) M) := by
  have hN := hD.now
  refine oCt.of (ls := [some (.inr (K_MOD, 0)), some (.inl d), some (.inl c), none]) mok_Mod_holds rfl rfl ?_
  refine oRun_ok 2 rfl ?_
  refine g_callV rfl rfl rfl rfl rfl mok_Mod_isDeed (by decide) (c_Mod_isDeed _ _) ?_
  rintro r2 M2 ⟨rfl, e⟩; rw [e]
  rw [hN]
  refine g_if_eq rfl (fun h5 => ?_) (fun h5 => ?_)
  · refine oRun_ok 1 rfl ?_
    exact g_iret rfl rfl rfl (oQM.same hD (if_pos h5))
  · refine oRun_ok 1 rfl ?_
    refine g_callS rfl rfl rfl rfl mok_Mod_isCell (by decide) (c_Mod_isCell _ _) ?_
    rintro r9 M9 ⟨rfl, e⟩; rw [e]
    refine g_if_ne rfl (fun h12 => ?_) (fun h12 => ?_)
    · obtain ⟨j, hj, hj4, rfl, ej⟩ := oHasD hI h5
      have h12 : ¬ f_Oak_isCell c = 0 := h12
      obtain ⟨x, y, hx, hy, ex, ey⟩ := cell_in h12
      obtain ⟨hC, c10⟩ := oNC (hI.dok hj)
      have fin : s_holds D (nI j) c = (bI (sHeld (D K_M_now 0) j (c / 100).toInt (oRem c 100).toInt), D) := (if_neg h5).trans ((if_neg h12).trans (by rw [ej]))
      have rx : inR (c / 100) 0 29 := by rw [ex]; exact inR_n (m := 29) (by omega) (by decide)
      have ry : inR (oRem c 100) 0 29 := by rw [ey]; exact inR_n (m := 29) (by omega) (by decide)
      refine oRun_ok 2 rfl ?_
      refine g_callV rfl rfl rfl rfl rfl mok_Mod_findCorners (by decide) (c_Mod_findCorners _ _ j hN hI.ok hj) ?_
      rintro r M' ⟨rfl, f1, f2, f3, f4, f5⟩
      refine oRun_ok 8 rfl ?_
      refine g_callV rfl rfl rfl rfl rfl mok_Mod_isHeld (by decide) (c_Mod_isHeld _ _ _ _ f1 c10 rx ry (far_find hI.ok hj f3)) ?_
      rintro r33 M33 ⟨rfl, e⟩; rw [e]
      rw [held_find f3]
      refine g_if_eq rfl (fun h36 => ?_) (fun h36 => ?_)
      · refine oRun_ok 1 rfl ?_
        exact g_iret rfl rfl rfl (oQM.look hD (by rw [fin, bI_eq0.mp h36]; rfl) (oMs_mf f5 f2))
      · refine oRun_ok 2 rfl ?_
        exact g_iret rfl rfl rfl (oQM.look hD (by rw [fin, bI_ne.mp h36]; rfl) (oMs_mf f5 f2))
    · refine oRun_ok 1 rfl ?_
      exact g_iret rfl rfl rfl (oQM.same hD ((if_neg h5).trans (if_pos h12)))
-- field
def s_field (D : oM) (d : Int32) : Int32 × oM := if f_Oak_isWithin d 0 (D K_M_now 0 2 - 1) = 0 then (vBAD, D) else (nI (sCells (fun x y => sHeld (D K_M_now 0) d.toNatClampNeg x y)), D)
theorem p_field (M D : oM) (d : Int32) (hI : oI M D) : oCt 6 k_Oak_field [.inr (K_OAK, 0), .inl d] M (oQC (s_field D d) M) := by
  refine oCt.of (ls := [some (.inr (K_OAK, 0)), some (.inl d)]) mok_Oak_field rfl rfl ?_
  refine oRun_ok 3 rfl ?_
  refine g_callV rfl rfl rfl rfl rfl mok_Land_hasDeed (by decide) (c_Land_hasDeed _ 0 _) ?_
  rintro r5 M5 ⟨rfl, e⟩; rw [e]
  rw [hI.dd]
  refine g_if_ne rfl (fun h8 => ?_) (fun h8 => ?_)
  · obtain ⟨j, hj, hj4, rfl, ej⟩ := oHasD hI h8
    refine oRun_ok 5 rfl ?_
    refine g_callV rfl rfl rfl rfl rfl mok_Cells_fillDeed (by decide) (c_Cells_fillDeed _ _ 0 0 j hI.ok hI.rl hj) ?_
    rintro r M' ⟨rfl, f1, f2⟩
    refine oRun_ok 4 rfl ?_
    refine g_aald j rfl rfl rfl hj4 rfl ?_
    refine g_callS rfl rfl rfl rfl mok_Oak_countBits (by decide) (c_bits_HROW _ (4 * 0 + j)) ?_
    rintro r35 M35 ⟨rfl, e⟩; rw [e]
    refine g_iret rfl rfl rfl (oQC.look hI ((if_neg h8).trans ?_) f2.cs)
    rw [ej, rows_cells (p := fun x y => sHeld (D K_M_now 0) j x y) (fun y hy x => ?_)]
    rw [f1 y hy x, Bool.and_eq_true, decide_eq_true_eq]
  · refine oRun_ok 1 rfl ?_
    exact g_iret rfl rfl rfl (oQC.same hI (if_pos h8))
theorem q_field (C M D : oM) (d : Int32) (hI : oI C D) (hD : oPs D M) : oCt 6 k_Mod_field [.inr (K_MOD, 0), .inl d] M (oQM (s_field D d) M) := by
  have hN := hD.now
  refine oCt.of (ls := [some (.inr (K_MOD, 0)), some (.inl d), none, none, none]) mok_Mod_field rfl rfl ?_
  refine oRun_ok 2 rfl ?_
  refine g_callV rfl rfl rfl rfl rfl mok_Mod_isDeed (by decide) (c_Mod_isDeed _ _) ?_
  rintro r2 M2 ⟨rfl, e⟩; rw [e]
  rw [hN]
  refine g_if_ne rfl (fun h5 => ?_) (fun h5 => ?_)
  · obtain ⟨j, hj, hj4, rfl, ej⟩ := oHasD hI h5
    obtain ⟨hC, c10⟩ := oNC (hI.dok hj)
    refine oRun_ok 2 rfl ?_
    refine g_callV rfl rfl rfl rfl rfl mok_Mod_findCorners (by decide) (c_Mod_findCorners _ _ j hN hI.ok hj) ?_
    rintro r M' ⟨rfl, f1, f2, f3, f4, f5⟩
    refine oRun_ok 5 rfl ?_
    have fin : s_field D (nI j) = (nI (sCnt (fun c => sHeld (D K_M_now 0) j (c / 30 : Nat) (c % 30 : Nat)) 900), D) := (if_neg h5).trans (by rw [ej]; rfl)
    have mm := oMs_mf f5 f2
    have hf := far_find hI.ok hj f3
    have hh : ∀ x y, sHx (M' K_M_cornerX 0) (M' K_M_cornerY 0) (cC (D K_M_now 0) j + 1) x y (cC (D K_M_now 0) j + 1) = sHeld (D K_M_now 0) j x y := fun x y => held_find f3
    generalize sGap (D K_M_now 0) j (sNd (D K_M_now 0) j) (sCh (D K_M_now 0) j) = gp
    have loop : ∀ (q k : Nat), k + q = 900 → oG k_Mod_field 6 22 [some (.inr (K_MOD, 0)), some (.inl (nI j)), some (.inl gp), some (.inl (nI (sCnt (fun c => sHeld (D K_M_now 0) j (c / 30 : Nat) (c % 30 : Nat)) k))), some (.inl (nI k))] [] M' (oQM (s_field D (nI j)) M) := by
      intro q
      induction q with
      | zero =>
        intro k hk
        obtain rfl : k = 900 := by omega
        refine oRun_ok 2 rfl ?_
        refine g_ic_ge rfl (fun _ => ?_) (fun h => absurd (Int32.le_refl _) h)
        refine oRun_ok 1 rfl ?_
        exact g_iret rfl rfl rfl (oQM.look hD fin mm)
      | succ q ih =>
        intro k hk
        refine oRun_ok 2 rfl ?_
        refine g_ic_ge rfl (fun h => ?_) (fun _ => ?_)
        · have h : nI 900 ≤ nI k := h
          rw [nIle (by omega) (by omega)] at h
          omega
        refine oRun_ok 8 rfl ?_
        rw [show nI k / 30 = nI (k / 30) by rw [L30, nIdiv (by omega) (by decide) (by decide)], show oRem (nI k) 30 = nI (k % 30) by rw [L30, nIrem (by omega) (by decide) (by decide)]]
        refine g_callV rfl rfl rfl rfl rfl mok_Mod_isHeld (by decide) (c_Mod_isHeld _ _ _ _ f1 c10 (inR_n (m := 29) (by omega) (by decide)) (inR_n (m := 29) (by omega) (by decide)) hf) ?_
        rintro r N1 ⟨rfl, e⟩; rw [e, hh, nIt (by omega), nIt (by omega)]
        have le := sCnt_le (fun c => sHeld (D K_M_now 0) j (c / 30 : Nat) (c % 30 : Nat)) k
        refine g_if_eq rfl (fun h => ?_) (fun h => ?_)
        · have hb := bI_eq0.mp h
          refine oRun_ok 5 rfl ?_
          rw [nI_1, Int32.add_zero]
          have := ih (k + 1) (by omega)
          rw [sCnt, hb] at this
          exact this
        · have hb := bI_ne.mp h
          refine oRun_ok 6 rfl ?_
          rw [nI_1, nI_1]
          have := ih (k + 1) (by omega)
          rw [sCnt, hb, if_pos rfl] at this
          exact this
    exact loop 900 0 (by omega)
  · refine oRun_ok 1 rfl ?_
    exact g_iret rfl rfl rfl (oQM.same hD (if_pos h5))

