/-! ===== deal, pour ===== -/
theorem oSR_sr {D : oM} {k : Nat} {f g : Nat → Int32} : oSR (oSR D k f) k g = oSR D k g := by
  funext k' i
  unfold oSR
  by_cases z : k' = k
  · rw [if_pos z, if_pos z, if_pos z]
    by_cases y : i = 0
    · rw [if_pos y, if_pos y]
    · rw [if_neg y, if_neg y, if_neg y]
  · rw [if_neg z, if_neg z, if_neg z]
theorem oSR_self {D : oM} {k : Nat} : oSR D k (D k 0) = D := by
  funext k' i
  unfold oSR
  by_cases z : k' = k
  · rw [if_pos z]
    by_cases y : i = 0
    · rw [if_pos y, y, z]
    · rw [if_neg y]
  · rw [if_neg z]
theorem oUp_oUp {M : oM} {k i j : Nat} {a b : Int32} : oUp (oUp M k i j a) k i j b = oUp M k i j b := by
  funext k' i' j'
  by_cases z : k' = k ∧ i' = i
  · obtain ⟨rfl, rfl⟩ := z
    rw [oUp_at, oUp_at, oUp_at]
    by_cases y : j' = j
    · exact (if_pos y).trans (if_pos y).symm
    · exact (if_neg y).trans ((if_neg y).trans (if_neg y).symm)
  · rw [oUp_ne z, oUp_ne z, oUp_ne z]
theorem upd_upd {f : Nat → Int32} {k : Nat} {a b : Int32} : upd (upd f k a) k b = upd f k b := by
  funext j
  by_cases y : j = k
  · rw [y, upd_eq, upd_eq]
  · rw [upd_ne y, upd_ne y, upd_ne y]
theorem oI.z {M D : oM} {v : Int32} (hI : oI M D) : oI (oUp M K_LAND 0 7 v) (oSR D K_M_now (upd (D K_M_now 0) 0 v)) := by
  have hm : ∀ j, ¬ j = 0 → upd (D K_M_now 0) 0 v j = D K_M_now 0 j := fun j hj => upd_ne hj
  have c1 : cS (upd (D K_M_now 0) 0 v) = cS (D K_M_now 0) := by unfold cS; rw [hm 1 (by omega)]
  have hok := hI.ok
  have e2 : cD (upd (D K_M_now 0) 0 v) = cD (D K_M_now 0) := by unfold cD; rw [hm 2 (by omega)]
  have e3 : cT (upd (D K_M_now 0) 0 v) = cT (D K_M_now 0) := by unfold cT; rw [hm 3 (by omega)]
  refine hI.land (oFr.rf.up (oSt_ld ⟨rfl, Or.inl rfl⟩)) ?_ (oSt_rl hI.ok hI.rl (fun j hj => hm j (by omega)) (oFr.rf.up ⟨rfl, Or.inl rfl⟩) ?_ (oUp_j (by decide)) (oUp_j (by decide)) ?_ (fun i hi => ?_)) (by omega)
  · refine ⟨by rw [hm 1 (by omega)]; exact hok.1, by rw [hm 2 (by omega)]; exact hok.2.1, by rw [hm 3 (by omega)]; exact hok.2.2.1, fun i hi => ?_, fun d hd => ?_, fun t ht => ?_⟩
    · rw [c1] at hi
      rw [hm _ (by omega), hm _ (by omega)]
      exact hok.2.2.2.1 i hi
    · rw [e2] at hd
      have h := hok.2.2.2.2.1 d hd
      have ec : cC (upd (D K_M_now 0) 0 v) d = cC (D K_M_now 0) d := by unfold cC; rw [hm _ (by omega)]
      unfold oDOk at h ⊢
      rw [ec, hm (20 + 35 * d) (by omega), hm (20 + 35 * d + 1) (by omega), hm (20 + 35 * d + 2) (by omega), hm (20 + 35 * d + 3) (by omega), hm (20 + 35 * d + 4) (by omega)]
      refine ⟨h.1, h.2.1, h.2.2.1, h.2.2.2.1, h.2.2.2.2.1, fun j hj => ?_⟩
      rw [hm _ (by omega), hm _ (by omega), hm _ (by omega)]
      exact h.2.2.2.2.2 j hj
    · rw [e3] at ht
      have h := hok.2.2.2.2.2 t ht
      have ef : (fun k => upd (D K_M_now 0) 0 v (188 + 96 * t + k)) = (fun k => D K_M_now 0 (188 + 96 * t + k)) := by
        funext k
        exact hm _ (by omega)
      unfold oTOk tN tK at h ⊢
      rw [hm (160 + 2 * t) (by omega), ef]
      exact h
  · rw [hm 1 (by omega)]
    exact (oUp_j (by decide)).trans hI.st
  · rw [upd_eq]
    exact oUp_self
  · rw [c1] at hi
    rw [hm _ (by omega), hm _ (by omega), oUp_k (by decide), oUp_k (by decide)]
    exact hI.sxy hi
theorem oI.add {M D : oM} {d : Nat} {a b c : Int32} (hI : oI M D) (hd : d < cD (D K_M_now 0)) (hc : cC (D K_M_now 0) d < 10) (ha : inR a 0 5) (hb : inR b 0 7) (hl : inR c 1 20) : oI (oUp (oUp (oUp (oUp M K_DK (4 * 0 + d) (cC (D K_M_now 0) d) a) K_DW (4 * 0 + d) (cC (D K_M_now 0) d) b) K_DL (4 * 0 + d) (cC (D K_M_now 0) d) c) K_DEED (4 * 0 + d) 4 (nI (cC (D K_M_now 0) d + 1))) (oSR D K_M_now (n_add (D K_M_now 0) d a b c)) :=
  (oQC.deed (p := (0, _)) (v := 0) hI rfl hd (n_add_s hc) (oDS_add oFr.rf) (oDOk_add (hI.dok hd) hc ha hb hl) (oRD_add (hI.rd hd) hc)).2.1
def n_deal1 (N : Nat → Int32) (d : Nat) : Nat → Int32 := n_add (upd N 0 (oDraw (oDraw (oDraw (N 0))))) d (oRem (oUshr (oDraw (N 0)) 8) 3) (oRem (oUshr (oDraw (oDraw (N 0))) 8) 8) (1 + oRem (oUshr (oDraw (oDraw (oDraw (N 0)))) 8) 12)
def n_deal (N : Nat → Int32) (d : Nat) : Nat → Nat → Int32
  | 0 => N
  | t + 1 => n_deal1 (n_deal N d t) d
theorem draw_n (z : Int32) : ∃ n, n < 16777216 ∧ oUshr z 8 = nI n := by
  obtain ⟨n, hn, rfl⟩ := of32 z
  exact ⟨n / 2 ^ 8, by omega, nI_ushr hn 8 rfl⟩
theorem draw_r (z : Int32) {m : Nat} (h0 : 0 < m) (hm : m < 100) : ∃ q, q < m ∧ oRem (oUshr z 8) (nI m) = nI q := by
  obtain ⟨n, hn, e⟩ := draw_n z
  exact ⟨n % m, Nat.mod_lt _ h0, by rw [e, nIrem (by omega) h0 (by omega)]⟩
theorem n_deal1_c {N : Nat → Int32} {d : Nat} (hc : cC N d < 10) : cC (n_deal1 N d) d = cC N d + 1 ∧ ∀ j, ¬ j = 0 → ¬ (20 + 35 * d ≤ j ∧ j < 55 + 35 * d) → n_deal1 N d j = N j := by
  have e : cC (upd N 0 (oDraw (oDraw (oDraw (N 0))))) d = cC N d := by unfold cC; rw [upd_ne (by omega)]
  refine ⟨?_, fun j h0 hj => ?_⟩
  · unfold n_deal1
    rw [n_add_c (by rw [e]; exact hc), e]
  · unfold n_deal1
    rw [n_add_s (by rw [e]; exact hc) j hj, upd_ne h0]
theorem n_deal_c {N : Nat → Int32} {d : Nat} : ∀ {t : Nat}, cC N d + t ≤ 10 → cC (n_deal N d t) d = cC N d + t ∧ ∀ j, ¬ j = 0 → ¬ (20 + 35 * d ≤ j ∧ j < 55 + 35 * d) → n_deal N d t j = N j
  | 0, _ => ⟨rfl, fun _ _ _ => rfl⟩
  | t + 1, h => by
    obtain ⟨i1, i2⟩ := n_deal_c (N := N) (d := d) (t := t) (by omega)
    obtain ⟨j1, j2⟩ := n_deal1_c (N := n_deal N d t) (d := d) (by omega)
    refine ⟨?_, fun j h0 hj => ?_⟩
    · show cC (n_deal1 (n_deal N d t) d) d = _
      omega
    · show n_deal1 (n_deal N d t) d j = _
      rw [j2 j h0 hj, i2 j h0 hj]
def s_deal (D : oM) (d n : Int32) : Int32 × oM := if f_Oak_isWithin d 0 (D K_M_now 0 2 - 1) = 0 then (vBAD, D) else if f_Oak_isWithin n 1 10 = 0 then (vBAD, D) else (nI (min n.toNatClampNeg (10 - cC (D K_M_now 0) d.toNatClampNeg)), oSR D K_M_now (n_deal (D K_M_now 0) d.toNatClampNeg (min n.toNatClampNeg (10 - cC (D K_M_now 0) d.toNatClampNeg))))
theorem deal_in {n : Int32} (h : ¬ f_Oak_isWithin n 1 10 = 0) : ∃ m, 1 ≤ m ∧ m ≤ 10 ∧ n = nI m ∧ n.toNatClampNeg = m := by
  have := wiR h
  obtain ⟨h1, h2⟩ := this
  rw [show (1 : Int32).toInt = 1 from rfl] at h1
  rw [show (10 : Int32).toInt = 10 from rfl] at h2
  exact ⟨n.toInt.toNat, by omega, by omega, nI_ofInt (by omega), rfl⟩
theorem p_deal (M D : oM) (d n : Int32) (hI : oI M D) : oCt 3 k_Oak_deal [.inr (K_OAK, 0), .inl d, .inl n] M (oQC (s_deal D d n) M) := by
  refine oCt.of (ls := [some (.inr (K_OAK, 0)), some (.inl d), some (.inl n), none, none, none, none, none, none]) mok_Oak_deal rfl rfl ?_
  refine oRun_ok 3 rfl ?_
  refine g_callV rfl rfl rfl rfl rfl mok_Land_hasDeed (by decide) (c_Land_hasDeed _ 0 _) ?_
  rintro r5 M5 ⟨rfl, e⟩; rw [e]
  rw [hI.dd]
  refine g_if_eq rfl (fun h8 => ?_) (fun h8 => ?_)
  · refine oRun_ok 1 rfl ?_
    exact g_iret rfl rfl rfl (oQC.same hI (if_pos h8))
  · refine oRun_ok 3 rfl ?_
    refine g_callS rfl rfl rfl rfl mok_Oak_isWithin (by decide) (c_Oak_isWithin _ _ _ _) ?_
    rintro r15 M15 ⟨rfl, e⟩; rw [e]
    refine g_if_ne rfl (fun h18 => ?_) (fun h18 => ?_)
    · obtain ⟨j, hj, hj4, rfl, ej⟩ := oHasD hI h8
      obtain ⟨m, hm1, hm10, em, cm⟩ := deal_in h18
      obtain ⟨hC, c10⟩ := oNC (hI.dok hj)
      have hM4 : M 5 (4 * 0 + j) 4 = nI (cC (D K_M_now 0) j) := ((hI.rd hj).1 4 (by decide)).trans hC
      have fin : s_deal D (nI j) n = (nI (min m (10 - cC (D K_M_now 0) j)), oSR D K_M_now (n_deal (D K_M_now 0) j (min m (10 - cC (D K_M_now 0) j)))) := (if_neg h8).trans ((if_neg h18).trans (by rw [ej, cm]))
      subst em
      generalize hc : cC (D K_M_now 0) j = c at *
      have mn : f_Math_min (nI m) (10 - nI c) = nI (min m (10 - c)) := by
        rw [show (10 : Int32) = nI 10 from rfl, nIsub c10]
        unfold f_Math_min
        by_cases z : 10 - c < m
        · rw [if_pos ((nIlt (by omega) (by omega)).mpr z)]
          congr 1
          omega
        · rw [if_neg (fun q => z ((nIlt (by omega) (by omega)).mp q))]
          congr 1
          omega
      refine oRun_ok 4 rfl ?_
      refine g_aald j rfl rfl rfl hj4 rfl ?_
      refine oRun_ok 6 rfl ?_
      rw [hM4]
      refine g_callS rfl rfl rfl rfl mok_Math_min (by decide) (c_Math_min _ _ _) ?_
      rintro r42 M42 ⟨rfl, e⟩; rw [e]
      rw [mn]
      refine oRun_ok 3 rfl ?_
      generalize ht : min m (10 - c) = t at *
      have loop : ∀ (q k : Nat) (M1 : oM) (x6 x7 x8 : Option oV), k + q = t → oI M1 (oSR D K_M_now (n_deal (D K_M_now 0) j k)) → oFr oCls M M1 → oG k_Oak_deal 3 50 [some (.inr (K_OAK, 0)), some (.inl (nI j)), some (.inl (nI m)), some (.inr (K_DEED, 4 * 0 + j)), some (.inl (nI t)), some (.inl (nI k)), x6, x7, x8] [] M1 (oQC (s_deal D (nI j) (nI m)) M) := by
        intro q
        induction q with
        | zero =>
          intro k M1 x6 x7 x8 hk h1 hF
          obtain rfl : k = t := by omega
          refine oRun_ok 2 rfl ?_
          refine g_ic_ge rfl (fun _ => ?_) (fun h => absurd (Int32.le_refl _) h)
          refine oRun_ok 1 rfl ?_
          exact g_iret rfl rfl rfl (oQC.of fin h1 hF)
        | succ q ih =>
          intro k M1 x6 x7 x8 hk h1 hF
          obtain ⟨n1, n2⟩ := n_deal_c (N := D K_M_now 0) (d := j) (t := k) (by omega)
          rw [hc] at n1
          generalize hN : n_deal (D K_M_now 0) j k = N at *
          have ez : M1 1 0 7 = N 0 := by
            have := h1.zz
            rw [oSR_at] at this
            exact this
          refine oRun_ok 2 rfl ?_
          refine g_ic_ge rfl (fun h => ?_) (fun _ => ?_)
          · rw [nIle (by omega) (by omega)] at h
            omega
          refine oRun_ok 2 rfl ?_
          refine g_callV rfl rfl rfl rfl rfl mok_Land_drawNumber (by decide) (c_Land_drawNumber _ 0) ?_
          rintro r1 N1 ⟨rfl, e⟩; rw [e]
          rw [show M1 K_LAND 0 7 = _ from ez]
          refine oRun_ok 5 rfl ?_
          refine g_callV rfl rfl rfl rfl rfl mok_Land_drawNumber (by decide) (c_Land_drawNumber _ 0) ?_
          rintro r2 N2 ⟨rfl, e⟩; rw [e]
          rw [oUp_self, oUp_oUp]
          refine oRun_ok 6 rfl ?_
          refine g_callV rfl rfl rfl rfl rfl mok_Land_drawNumber (by decide) (c_Land_drawNumber _ 0) ?_
          rintro r3 N3 ⟨rfl, e⟩; rw [e]
          rw [oUp_self, oUp_oUp]
          obtain ⟨a, ha, ea⟩ := draw_r (oDraw (N 0)) (m := 3) (by decide) (by decide)
          obtain ⟨b, hb, eb⟩ := draw_r (oDraw (oDraw (N 0))) (m := 8) (by decide) (by decide)
          obtain ⟨l, hl, el⟩ := draw_r (oDraw (oDraw (oDraw (N 0)))) (m := 12) (by decide) (by decide)
          have h2 := h1.z (v := oDraw (oDraw (oDraw (N 0))))
          rw [oSR_at, oSR_sr] at h2
          have eU : cC (upd N 0 (oDraw (oDraw (oDraw (N 0))))) j = c + k := by
            rw [← n1]
            unfold cC
            rw [upd_ne (by omega)]
          have eD : cD (upd N 0 (oDraw (oDraw (oDraw (N 0))))) = cD (D K_M_now 0) := by
            unfold cD
            rw [upd_ne (by omega), n2 2 (by omega) (by omega)]
          have hd2 : j < cD ((oSR D K_M_now (upd N 0 (oDraw (oDraw (oDraw (N 0)))))) K_M_now 0) := by
            rw [oSR_at, eD]
            exact hj
          have hM5 : (oUp M1 K_LAND 0 7 (oDraw (oDraw (oDraw (N 0))))) K_DEED (4 * 0 + j) 4 = nI (c + k) := by
            have q1 := (h2.rd hd2).1 4 (by decide)
            have q2 := (oNC (h2.dok hd2)).1
            rw [oSR_at] at q1 q2
            rw [q1, q2, eU]
          have rl : inR (1 + oRem (oUshr (oDraw (oDraw (oDraw (N 0)))) 8) 12) 1 20 := by
            rw [show oRem (oUshr (oDraw (oDraw (oDraw (N 0)))) 8) 12 = nI l from el, L1, nI_plus]
            exact inR_n1 (m := 20) (l := 1) (by omega) (by omega) (by decide)
          have h3 := h2.add (d := j) (a := oRem (oUshr (oDraw (N 0)) 8) 3) (b := oRem (oUshr (oDraw (oDraw (N 0))) 8) 8) (c := 1 + oRem (oUshr (oDraw (oDraw (oDraw (N 0)))) 8) 12) hd2 (by rw [oSR_at, eU]; omega) (by rw [show oRem (oUshr (oDraw (N 0)) 8) 3 = nI a from ea]; exact inR_n (m := 5) (by omega) (by decide)) (by rw [show oRem (oUshr (oDraw (oDraw (N 0))) 8) 8 = nI b from eb]; exact inR_n (m := 7) (by omega) (by decide)) rl
          rw [oSR_at, eU, oSR_sr] at h3
          refine oRun_ok 8 rfl ?_
          refine g_callV rfl rfl rfl rfl rfl mok_Deed_addCall (by decide) (c_Deed_addCall _ (4 * 0 + j) (c + k) _ _ _ hM5 (by omega)) ?_
          rintro r4 N4 ⟨rfl, e⟩; rw [e]
          refine oRun_ok 2 rfl ?_
          rw [nI_1]
          refine ih (k + 1) _ _ _ _ (by omega) ?_ (((((hF.cl (by decide)).cl (by decide)).cl (by decide)).cl (by decide)).cl (by decide))
          show oI _ (oSR D K_M_now (n_deal1 (n_deal (D K_M_now 0) j k) j))
          rw [hN]
          exact h3
      refine loop t 0 M _ _ _ (by omega) ?_ oFr.rf
      show oI M (oSR D K_M_now (D K_M_now 0))
      rw [oSR_self]
      exact hI
    · refine oRun_ok 1 rfl ?_
      exact g_iret rfl rfl rfl (oQC.same hI ((if_neg h8).trans (if_pos h18)))
theorem c_Mod_draw (M : oM) : oCt 0 k_Mod_draw [.inr (K_MOD, 0)] M (fun r M' => r = some (oUshr (oDraw (M K_M_now 0 0)) 8) ∧ M' = oUp M K_M_now 0 0 (oDraw (M K_M_now 0 0))) := by
  refine oCt.of (ls := [some (.inr (K_MOD, 0))]) mok_Mod_draw rfl rfl ?_
  refine oRun_ok 6 rfl ?_
  refine g_iald 0 rfl rfl rfl (by decide) ?_
  refine oRun_ok 4 rfl ?_
  refine g_iast 0 rfl rfl rfl (by decide) ?_
  refine oRun_ok 3 rfl ?_
  refine g_iald 0 rfl rfl rfl (by decide) ?_
  refine oRun_ok 2 rfl ?_
  refine g_iret rfl rfl rfl ?_
  rw [oUp_self]
  exact ⟨rfl, rfl⟩
theorem q_deal (C M D : oM) (d n : Int32) (hI : oI C D) (hD : oPs D M) : oCt 4 k_Mod_deal [.inr (K_MOD, 0), .inl d, .inl n] M (oQM (s_deal D d n) M) := by
  have hN0 := hD.now
  refine oCt.of (ls := [some (.inr (K_MOD, 0)), some (.inl d), some (.inl n), none, none, none]) mok_Mod_deal rfl rfl ?_
  refine oRun_ok 2 rfl ?_
  refine g_callV rfl rfl rfl rfl rfl mok_Mod_isDeed (by decide) (c_Mod_isDeed _ _) ?_
  rintro r2 M2 ⟨rfl, e⟩; rw [e]
  rw [hN0]
  refine g_if_eq rfl (fun h5 => ?_) (fun h5 => ?_)
  · refine oRun_ok 1 rfl ?_
    exact g_iret rfl rfl rfl (oQM.same hD (if_pos h5))
  · refine oRun_ok 3 rfl ?_
    refine g_callS rfl rfl rfl rfl mok_Mod_in (by decide) (c_Mod_in _ _ _ _) ?_
    rintro r12 M12 ⟨rfl, e⟩; rw [e]
    refine g_if_ne rfl (fun h15 => ?_) (fun h15 => ?_)
    · obtain ⟨j, hj, hj4, rfl, ej⟩ := oHasD hI h5
      obtain ⟨m, hm1, hm10, em, cm⟩ := deal_in h15
      obtain ⟨hC, c10⟩ := oNC (hI.dok hj)
      have fin : s_deal D (nI j) n = (nI (min m (10 - cC (D K_M_now 0) j)), oSR D K_M_now (n_deal (D K_M_now 0) j (min m (10 - cC (D K_M_now 0) j)))) := (if_neg h5).trans ((if_neg h15).trans (by rw [ej, cm]))
      subst em
      generalize hc : cC (D K_M_now 0) j = c at *
      refine oRun_ok 2 rfl ?_
      generalize ht : min m (10 - c) = t at *
      have loop : ∀ (q k : Nat) (M1 : oM) (x4 x5 : Option oV), k + q = t → M1 K_M_now 0 = n_deal (D K_M_now 0) j k → oFr (oKi K_M_now 0) M M1 → oG k_Mod_deal 4 23 [some (.inr (K_MOD, 0)), some (.inl (nI j)), some (.inl (nI m)), some (.inl (nI k)), x4, x5] [] M1 (oQM (s_deal D (nI j) (nI m)) M) := by
        intro q
        have cOf : ∀ k, k ≤ t → n_deal (D K_M_now 0) j k (20 + 35 * j + 4) = nI (c + k) ∧ cC (n_deal (D K_M_now 0) j k) j = c + k := by
          intro k hk
          obtain ⟨n1, n2⟩ := n_deal_c (N := D K_M_now 0) (d := j) (t := k) (by omega)
          rw [hc] at n1
          refine ⟨?_, n1⟩
          cases k with
          | zero => rw [show c + 0 = c from rfl, ← hC]; rfl
          | succ k =>
            obtain ⟨n3, n4⟩ := n_deal_c (N := D K_M_now 0) (d := j) (t := k) (by omega)
            rw [hc] at n3
            have e : cC (upd (n_deal (D K_M_now 0) j k) 0 (oDraw (oDraw (oDraw (n_deal (D K_M_now 0) j k 0))))) j = c + k := by
              rw [← n3]
              unfold cC
              rw [upd_ne (by omega)]
            show n_deal1 (n_deal (D K_M_now 0) j k) j (20 + 35 * j + 4) = _
            unfold n_deal1 n_add
            rw [upd_eq, e]
            rfl
        induction q with
        | zero =>
          intro k M1 x4 x5 hk h1 hF
          obtain rfl : k = t := by omega
          refine oRun_ok 2 rfl ?_
          refine g_ic_ge rfl (fun _ => ?_) (fun h => ?_)
          · refine oRun_ok 1 rfl ?_
            exact g_iret rfl rfl rfl (oQM.row (k := K_M_now) (by decide) hD fin hF h1)
          · rw [nIle (by omega) (by omega)] at h
            refine oRun_ok 3 rfl ?_
            refine g_callV rfl rfl rfl rfl rfl mok_Mod_of (by decide) (c_Mod_of _ j 4 hj4 (by decide)) ?_
            rintro r N1 ⟨rfl, e⟩; rw [e, h1, (cOf k (Nat.le_refl _)).1]
            refine oRun_ok 1 rfl ?_
            refine g_ic_ge rfl (fun _ => ?_) (fun h2 => ?_)
            · refine oRun_ok 1 rfl ?_
              exact g_iret rfl rfl rfl (oQM.row (k := K_M_now) (by decide) hD fin hF h1)
            · rw [show (10 : Int32) = nI 10 from rfl, nIle (by omega) (by omega)] at h2
              omega
        | succ q ih =>
          intro k M1 x4 x5 hk h1 hF
          obtain ⟨hc1, hc2⟩ := cOf k (by omega)
          refine oRun_ok 2 rfl ?_
          refine g_ic_ge rfl (fun h => ?_) (fun _ => ?_)
          · rw [nIle (by omega) (by omega)] at h
            omega
          refine oRun_ok 3 rfl ?_
          refine g_callV rfl rfl rfl rfl rfl mok_Mod_of (by decide) (c_Mod_of _ j 4 hj4 (by decide)) ?_
          rintro r N1 ⟨rfl, e⟩; rw [e, h1, hc1]
          refine oRun_ok 1 rfl ?_
          refine g_ic_ge rfl (fun h2 => ?_) (fun _ => ?_)
          · rw [show (10 : Int32) = nI 10 from rfl, nIle (by omega) (by omega)] at h2
            omega
          generalize hNN : n_deal (D K_M_now 0) j k = N at *
          refine oRun_ok 1 rfl ?_
          refine g_callV rfl rfl rfl rfl rfl mok_Mod_draw (by decide) (c_Mod_draw _) ?_
          rintro r1 N2 ⟨rfl, e⟩; rw [e]
          rw [show M1 K_M_now 0 0 = N 0 by rw [h1]]
          refine oRun_ok 4 rfl ?_
          refine g_callV rfl rfl rfl rfl rfl mok_Mod_draw (by decide) (c_Mod_draw _) ?_
          rintro r2 N3 ⟨rfl, e⟩; rw [e]
          rw [oUp_self, oUp_oUp]
          refine oRun_ok 10 rfl ?_
          refine g_callV rfl rfl rfl rfl rfl mok_Mod_draw (by decide) (c_Mod_draw _) ?_
          rintro r3 N4 ⟨rfl, e⟩; rw [e]
          rw [oUp_self, oUp_oUp]
          refine oRun_ok 3 rfl ?_
          have eU : cC (upd N 0 (oDraw (oDraw (oDraw (N 0))))) j = c + k := by
            rw [← hc2]
            unfold cC
            rw [upd_ne (by omega)]
          refine g_callV rfl rfl rfl rfl rfl mok_Mod_comes (by decide) (c_Mod_comes _ (upd N 0 (oDraw (oDraw (oDraw (N 0))))) j _ _ _ (by rw [oUp_upd, h1]) hj4 (by rw [eU, upd_ne (by omega)]; exact hc1) (by rw [eU]; omega)) ?_
          rintro r4 N5 ⟨rfl, f1, f2⟩
          rw [eU]
          refine g_if_lt rfl (fun z => absurd z (nI_pos (by omega))) (fun _ => ?_)
          refine oRun_ok 5 rfl ?_
          rw [nI_1]
          refine ih (k + 1) N5 _ _ (by omega) ?_ ((hF.up ⟨rfl, rfl⟩).tr f2)
          rw [f1]
          show _ = n_deal1 (n_deal (D K_M_now 0) j k) j
          rw [hNN]
          rfl
      exact loop t 0 M _ _ (by omega) hN0 oFr.rf
    · refine oRun_ok 1 rfl ?_
      exact g_iret rfl rfl rfl (oQM.same hD ((if_neg h5).trans (if_pos h15)))

