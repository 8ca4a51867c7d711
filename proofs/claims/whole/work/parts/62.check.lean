/-! ===== check, reads ===== -/
/-- how many hold from the first on, of n -/
def sPre (p : Nat → Bool) : Nat → Nat
  | 0 => 0
  | n + 1 => if sPre p n = n ∧ p n = true then n + 1 else sPre p n
theorem sPre_le (p : Nat → Bool) : ∀ n, sPre p n ≤ n
  | 0 => Nat.le_refl 0
  | n + 1 => by
    unfold sPre
    have := sPre_le p n
    split <;> omega
theorem sPre_all {p : Nat → Bool} : ∀ {n : Nat}, (∀ j, j < n → p j = true) → sPre p n = n
  | 0, _ => rfl
  | n + 1, h => by
    unfold sPre
    rw [if_pos ⟨sPre_all (fun j hj => h j (by omega)), h n (by omega)⟩]
theorem sPre_stop {p : Nat → Bool} {k : Nat} (h : ∀ j, j < k → p j = true) (hk : p k = false) : ∀ n, k ≤ n → sPre p n = k
  | 0, hn => by
    have : k = 0 := by omega
    rw [this]
    rfl
  | n + 1, hn => by
    by_cases z : k = n + 1
    · rw [z]
      exact sPre_all (fun j hj => h j (by omega))
    · have ih := sPre_stop h hk n (by omega)
      unfold sPre
      rw [ih, if_neg]
      rintro ⟨q1, q2⟩
      rw [← q1, hk] at q2
      cases q2
theorem sPre_cg {p p' : Nat → Bool} : ∀ {n : Nat}, (∀ j, j < n → p j = p' j) → sPre p n = sPre p' n
  | 0, _ => rfl
  | n + 1, h => by
    unfold sPre
    rw [sPre_cg (fun j hj => h j (by omega)), h n (by omega)]
/-- corners as one row -/
def sRow (N : Nat → Int32) (d p : Nat) : Int32 := if p % 2 = 0 then (sC N d (sNd N d) (sCh N d) (p / 2)).1 else (sC N d (sNd N d) (sCh N d) (p / 2)).2
def sChk (N : Nat → Int32) (t : Nat → Int32) (d n : Nat) : Int32 := if sPre (fun j => decide (t j = sRow N d (j + 2))) (min n (2 * cC N d)) = n ∧ n = 2 * cC N d then 0 else 1 + nI (sPre (fun j => decide (t j = sRow N d (j + 2))) (min n (2 * cC N d)))
def s_check (D : oM) (d : Int32) : Int32 × oM := (if D K_MOD 0 3 = 0 then vNO else if f_Oak_isWithin d 0 (D K_M_image 0 2 - 1) = 0 then vBAD else sChk (cpN (D K_M_image 0) (D K_M_now 0)) (D K_M_tells 0) d.toNatClampNeg (D K_MOD 0 40).toNatClampNeg, oUp D K_MOD 0 40 0)
theorem oI.nowait {M M' D : oM} (hI : oI M D) (hF : oFr oCsc M M') : oI (oUp M' K_OAK 0 12 0) (oUp D K_MOD 0 40 0) := by
  have hI' := hI.cls hF.sc
  exact ⟨hI'.1.cg (oKp_up oKp.rf (by decide)) rfl, hI'.img.cg (oKp_up oKp.rf (by decide)) rfl rfl rfl rfl, hI'.tape.cg rfl rfl rfl rfl, hI'.sheet.cg (fun s hs => ⟨rfl, rfl⟩) rfl rfl rfl, hI'.slot.cg (fun s hs => ⟨rfl, rfl, rfl⟩) rfl rfl rfl rfl, ⟨0, by decide, oUp_self, oUp_self, fun j hj => absurd hj (by omega)⟩, hI'.con.cg rfl rfl⟩
theorem p_check (M D : oM) (d : Int32) (hI : oI M D) : oCt 5 k_Oak_check [.inr (K_OAK, 0), .inl d] M (oQC (s_check D d) M) := by
  obtain ⟨i1, i2⟩ := hI.img
  obtain ⟨n, hn, w1, w2, w3⟩ := hI.wait
  have hI0 : oI (oUp M K_OAK 0 12 0) (oUp D K_MOD 0 40 0) := hI.nowait oFr.rf
  have fr0 : oFr oCls M (oUp M K_OAK 0 12 0) := oFr.rf.cl (by decide)
  refine oCt.of (ls := [some (.inr (K_OAK, 0)), some (.inl d), none, none, none]) mok_Oak_check rfl rfl ?_
  refine oRun_ok 8 rfl ?_
  rw [show M 0 0 12 = nI n from w1, show oUp M 0 0 12 0 0 0 2 = M K_OAK 0 2 from oUp_j (by decide)]
  refine g_if_ne rfl (fun h14 => ?_) (fun h14 => ?_)
  · obtain ⟨j1, j2, j3, j4⟩ := i2.resolve_left h14
    have n3 : ¬ D K_MOD 0 3 = 0 := fun z => h14 (i1.symm.trans z)
    have cg := fun j hj => (cpN_lt (f := D K_M_image 0) (g := D K_M_now 0) (j := j) hj)
    have k2 := oNOk_cg cg j2
    have k3 : oRL (oUp M K_OAK 0 12 0) (cpN (D K_M_image 0) (D K_M_now 0)) 1 := oRL_kp (oKp_up oKp.rf (by decide)) (oRL_cg cg j2 j3)
    have e2 : cpN (D K_M_image 0) (D K_M_now 0) 2 = D K_M_image 0 2 := cg 2 (by decide)
    refine oRun_ok 3 rfl ?_
    refine g_callV rfl rfl rfl rfl rfl mok_Land_hasDeed (by decide) (c_Land_hasDeed _ 1 _) ?_
    rintro r26 M26 ⟨rfl, e⟩; rw [e]
    rw [show oUp M 0 0 12 0 K_LAND 1 4 = D K_M_image 0 2 from j3.2.1]
    refine g_if_ne rfl (fun h29 => ?_) (fun h29 => ?_)
    · obtain ⟨hDD, d4⟩ := oND k2
      have h29' := h29
      rw [← e2, hDD] at h29'
      obtain ⟨j, hj, rfl⟩ := wiI (by omega) h29'
      have ej : (nI j).toNatClampNeg = j := nIc (by omega)
      have fin : s_check D (nI j) = (sChk (cpN (D K_M_image 0) (D K_M_now 0)) (D K_M_tells 0) j n, oUp D K_MOD 0 40 0) := by
        unfold s_check
        rw [if_neg n3, if_neg h29, ej, w2, nIc (by omega)]
      obtain ⟨hC, c10⟩ := oNC (k2.2.2.2.2.1 j hj)
      refine oRun_ok 3 rfl ?_
      refine g_callV rfl rfl rfl rfl rfl mok_Walk_traceDeed (by decide) (c_Walk_traceDeed _ _ 1 j k2 k3 hj) ?_
      rintro r M' ⟨rfl, f1, f2, f3⟩
      refine oRun_ok 10 rfl ?_
      rw [show M' 9 1 3 = _ from f1]
      generalize hNN : cpN (D K_M_image 0) (D K_M_now 0) = N at *
      rw [show (2 : Int32) * nI (cC N j + 1) - 2 = nI (2 * cC N j) by rw [L2, nI_times, nIsub (by omega)]; congr 1]
      have eW : M' K_WAIT 0 = M K_WAIT 0 := f3 K_WAIT 0 (fun q => by
        rcases q with q | ⟨-, q⟩
        · exact absurd q (by decide)
        · exact absurd q (by decide))
      have row : ∀ p, p < 2 * cC N j + 2 → (if p % 2 = 0 then M' K_WX 1 (p / 2) else M' K_WY 1 (p / 2)) = sRow N j p := by
        intro p hp
        unfold sRow
        rw [(f2 (p / 2) (by omega)).1, (f2 (p / 2) (by omega)).2]
      have frE : oFr oCls M M' := fr0.tr f3.ws.scl
      have hIE : oI M' (oUp D K_MOD 0 40 0) := hI0.cls f3.ws.sc
      have loop : ∀ (q k : Nat), k + q = min n (2 * cC N j) → (∀ x, x < k → decide (D K_M_tells 0 x = sRow N j (x + 2)) = true) → oG k_Oak_check 5 58 [some (.inr (K_OAK, 0)), some (.inl (nI j)), some (.inl (nI n)), some (.inl (nI (2 * cC N j))), some (.inl (nI k))] [] M' (oQC (s_check D (nI j)) M) := by
        intro q
        have stop : ∀ k, k ≤ min n (2 * cC N j) → sPre (fun x => decide (D K_M_tells 0 x = sRow N j (x + 2))) (min n (2 * cC N j)) = k → oG k_Oak_check 5 97 [some (.inr (K_OAK, 0)), some (.inl (nI j)), some (.inl (nI n)), some (.inl (nI (2 * cC N j))), some (.inl (nI k))] [] M' (oQC (s_check D (nI j)) M) := by
          intro k hk hs
          have sc : sChk N (D K_M_tells 0) j n = if k = n ∧ n = 2 * cC N j then 0 else 1 + nI k := by
            unfold sChk
            rw [hs]
          refine oRun_ok 2 rfl ?_
          refine g_ic_ne rfl (fun h => ?_) (fun h => ?_)
          · rw [nIe (by omega) (by omega)] at h
            refine oRun_ok 3 rfl ?_
            exact g_iret rfl rfl rfl (oQC.of (by rw [fin, sc, if_neg (fun z => h z.1)]) hIE frE)
          · rw [nIe (by omega) (by omega)] at h
            refine oRun_ok 2 rfl ?_
            refine g_ic_ne rfl (fun h2 => ?_) (fun h2 => ?_)
            · rw [nIe (by omega) (by omega)] at h2
              refine oRun_ok 3 rfl ?_
              exact g_iret rfl rfl rfl (oQC.of (by rw [fin, sc, if_neg (fun z => h2 (by omega))]) hIE frE)
            · rw [nIe (by omega) (by omega)] at h2
              refine oRun_ok 2 rfl ?_
              exact g_iret rfl rfl rfl (oQC.of (by rw [fin, sc, if_pos ⟨h, by omega⟩]) hIE frE)
        induction q with
        | zero =>
          intro k hk ha
          have e : sPre (fun x => decide (D K_M_tells 0 x = sRow N j (x + 2))) (min n (2 * cC N j)) = k := by
            rw [show min n (2 * cC N j) = k by omega]
            exact sPre_all ha
          refine oRun_ok 2 rfl ?_
          refine g_ic_ge rfl (fun h => stop k (by omega) e) (fun h => ?_)
          refine oRun_ok 2 rfl ?_
          refine g_ic_ge rfl (fun h => stop k (by omega) e) (fun h2 => ?_)
          rw [nIle (by omega) (by omega)] at h h2
          omega
        | succ q ih =>
          intro k hk ha
          refine oRun_ok 2 rfl ?_
          refine g_ic_ge rfl (fun h => ?_) (fun h => ?_)
          · rw [nIle (by omega) (by omega)] at h
            omega
          refine oRun_ok 2 rfl ?_
          refine g_ic_ge rfl (fun h => ?_) (fun h => ?_)
          · rw [nIle (by omega) (by omega)] at h
            omega
          refine oRun_ok 3 rfl ?_
          refine g_iald k rfl rfl rfl (by omega) ?_
          rw [show M' 30 0 k = D K_M_tells 0 k by rw [show M' 30 0 = _ from eW]; exact w3 k (by omega)]
          refine oRun_ok 5 rfl ?_
          rw [L2, nI_plus]
          refine g_callV rfl rfl rfl rfl rfl mok_Walk_cornersInRow (by decide) (c_Walk_cornersInRow _ 1 (k + 2) (by omega)) ?_
          rintro r M1 ⟨rfl, e⟩; rw [e, row (k + 2) (by omega)]
          refine g_ic_ne rfl (fun h => ?_) (fun h => ?_)
          · exact stop k (by omega) (sPre_stop ha (decide_eq_false h) _ (by omega))
          · refine oRun_ok 2 rfl ?_
            rw [nI_1]
            refine ih (k + 1) (by omega) (fun x hx => ?_)
            by_cases z : x = k
            · rw [z]
              exact decide_eq_true h
            · exact ha x (by omega)
      exact loop (min n (2 * cC N j)) 0 (by omega) (fun x hx => absurd hx (by omega))
    · refine oRun_ok 1 rfl ?_
      exact g_iret rfl rfl rfl (oQC.of (by unfold s_check; rw [if_neg n3, if_pos h29]) hI0 fr0)
  · refine oRun_ok 1 rfl ?_
    exact g_iret rfl rfl rfl (oQC.of (by unfold s_check; rw [if_pos (i1.trans h14)]) hI0 fr0)
theorem q_check (C M D : oM) (d : Int32) (hI : oI C D) (hD : oPs D M) : oCt 6 k_Mod_check [.inr (K_MOD, 0), .inl d] M (oQM (s_check D d) M) := by
  obtain ⟨i1, i2⟩ := hI.img
  obtain ⟨n, hn, w1, w2, w3⟩ := hI.wait
  have hM40 : M 31 0 40 = nI n := hD.2.2.2.trans w2
  have hM3 : oUp M 31 0 40 0 31 0 3 = D K_MOD 0 3 := (oUp_j (by decide)).trans hD.2.1
  have eI : oUp M 31 0 40 0 33 0 = D K_M_image 0 := hD.1 K_M_image (by decide)
  have eNw : oUp M 31 0 40 0 32 0 = D K_M_now 0 := hD.now
  have p0 : oPs (oUp D K_MOD 0 40 0) (oUp M 31 0 40 0) := hD.up
  have fr0 : oFr oMdl M (oUp M 31 0 40 0) := oFr.rf.mdl (by decide)
  refine oCt.of (ls := [some (.inr (K_MOD, 0)), some (.inl d), none, none, none]) mok_Mod_check rfl rfl ?_
  refine oRun_ok 8 rfl ?_
  rw [hM40, hM3]
  refine g_if_ne rfl (fun h14 => ?_) (fun h14 => ?_)
  · refine oRun_ok 5 rfl ?_
    refine g_iald 2 rfl rfl rfl (by decide) ?_
    rw [eI]
    refine oRun_ok 2 rfl ?_
    refine g_callS rfl rfl rfl rfl mok_Mod_in (by decide) (c_Mod_in _ _ _ _) ?_
    rintro r31 M31 ⟨rfl, e⟩; rw [e]
    refine g_if_ne rfl (fun h34 => ?_) (fun h34 => ?_)
    · have h14' : ¬ C K_OAK 0 2 = 0 := fun z => h14 (i1.trans z)
      obtain ⟨j1, j2, j3, j4⟩ := i2.resolve_left h14'
      have cg := fun j hj => (cpN_lt (f := D K_M_image 0) (g := D K_M_now 0) (j := j) hj)
      have k2 := oNOk_cg cg j2
      have e2 : cpN (D K_M_image 0) (D K_M_now 0) 2 = D K_M_image 0 2 := cg 2 (by decide)
      obtain ⟨hDD, d4⟩ := oND k2
      have h34' : ¬ f_Oak_isWithin d 0 (D K_M_image 0 2 - 1) = 0 := h34
      rw [← e2, hDD] at h34'
      obtain ⟨j, hj, rfl⟩ := wiI (by omega) h34'
      have ej : (nI j).toNatClampNeg = j := nIc (by omega)
      have fin : s_check D (nI j) = (sChk (cpN (D K_M_image 0) (D K_M_now 0)) (D K_M_tells 0) j n, oUp D K_MOD 0 40 0) := by
        unfold s_check
        rw [if_neg h14, ej, w2, nIc (by omega)]
        exact congrArg (fun z => (z, oUp D K_MOD 0 40 0)) (if_neg h34)
      obtain ⟨hC, c10⟩ := oNC (k2.2.2.2.2.1 j hj)
      refine oRun_ok 4 rfl ?_
      refine g_callS rfl rfl rfl rfl mok_Mod_copyAll (by decide) (c_Mod_copyAll _ 32 34 rfl rfl (by decide) rfl rfl) ?_
      rintro r1 M1 ⟨rfl, a1, a2⟩
      have b1 : M1 33 0 = D K_M_image 0 := (a2 33 0 (fun q => absurd q.1 (by decide))).trans eI
      have b2 : M1 32 0 = D K_M_now 0 := (a2 32 0 (fun q => absurd q.1 (by decide))).trans eNw
      rw [eNw] at a1
      refine oRun_ok 4 rfl ?_
      refine g_callS rfl rfl rfl rfl mok_Mod_copyAll (by decide) (c_Mod_copyAll _ 33 32 rfl rfl (by decide) rfl rfl) ?_
      rintro r2 M2 ⟨rfl, a3, a4⟩
      rw [b1, b2] at a3
      have b3 : M2 34 0 = cpN (D K_M_now 0) (oUp M 31 0 40 0 34 0) := (a4 34 0 (fun q => absurd q.1 (by decide))).trans a1
      refine oRun_ok 2 rfl ?_
      refine g_callV rfl rfl rfl rfl rfl mok_Mod_findCorners (by decide) (c_Mod_findCorners _ _ j a3 k2 hj) ?_
      rintro r3 M3 ⟨rfl, f1, f2, f3, f4, f5⟩
      have b4 : M3 32 0 = cpN (D K_M_image 0) (D K_M_now 0) := (f5 32 0 oMf_now).trans a3
      have b5 : M3 34 0 = cpN (D K_M_now 0) (oUp M 31 0 40 0 34 0) := (f5 34 0 (by rintro ((q | q | q | q) | (q | q) | (q | q)) <;> exact absurd q (by decide))).trans b3
      refine oRun_ok 5 rfl ?_
      refine g_callS rfl rfl rfl rfl mok_Mod_copyAll (by decide) (c_Mod_copyAll _ 34 32 rfl rfl (by decide) rfl rfl) ?_
      rintro r4 M4 ⟨rfl, a5, a6⟩
      refine oRun_ok 2 rfl ?_
      have b6 : M4 32 0 = D K_M_now 0 := by
        rw [a5, b4, b5]
        funext x
        unfold cpN
        by_cases z : x < 1532
        · rw [if_pos z, if_pos z]
        · rw [if_neg z, if_neg z]
      have g4 : ∀ k, ¬ k = 32 → M4 k 0 = M3 k 0 := fun k hk => a6 k 0 (fun q => hk q.1)
      have g2 : ∀ k, ¬ k = 32 → ¬ k = 34 → M2 k 0 = oUp M 31 0 40 0 k 0 := fun k h1 h2 => (a4 k 0 (fun q => h1 q.1)).trans (a2 k 0 (fun q => h2 q.1))
      have m4 : oPs (oUp D K_MOD 0 40 0) M4 := by
        have mm := oMs_mf f5 f2
        refine ⟨fun k hk => ?_, ?_, ?_, ?_⟩
        · by_cases z : k = K_M_now
          · rw [z]
            exact b6
          · rw [g4 k z, mm.ps.1 k hk, g2 k z (fun y => by rw [y] at hk; revert hk; decide)]
            exact p0.1 k hk
        · rw [g4 K_MOD (by decide), mm.2.1, g2 K_MOD (by decide) (by decide)]
          exact p0.2.1
        · rw [g4 K_MOD (by decide), mm.2.2.1, g2 K_MOD (by decide) (by decide)]
          exact p0.2.2.1
        · rw [g4 K_MOD (by decide), mm.2.2.2, g2 K_MOD (by decide) (by decide)]
          exact p0.2.2.2
      have fr4 : oFr oMdl M M4 := (((fr0.tr (a2.mono (fun k i q => by rw [q.1]; exact ⟨by decide, by decide⟩))).tr (a4.mono (fun k i q => by rw [q.1]; exact ⟨by decide, by decide⟩))).tr (oMs_mf f5 f2).md).tr (a6.mono (fun k i q => by rw [q.1]; exact ⟨by decide, by decide⟩))
      have e7 : M4 31 0 7 = nI (cC (cpN (D K_M_image 0) (D K_M_now 0)) j) := by rw [g4 31 (by decide)]; exact f1
      have eT : M4 59 0 = D K_M_tells 0 := m4.1 K_M_tells (by decide)
      have eX : ∀ x, x ≤ cC (cpN (D K_M_image 0) (D K_M_now 0)) j → M4 38 0 x = (sC (cpN (D K_M_image 0) (D K_M_now 0)) j (sNd (cpN (D K_M_image 0) (D K_M_now 0)) j) (sCh (cpN (D K_M_image 0) (D K_M_now 0)) j) x).1 ∧ M4 39 0 x = (sC (cpN (D K_M_image 0) (D K_M_now 0)) j (sNd (cpN (D K_M_image 0) (D K_M_now 0)) j) (sCh (cpN (D K_M_image 0) (D K_M_now 0)) j) x).2 := by
        intro x hx
        rw [g4 38 (by decide), g4 39 (by decide)]
        exact f3 x hx
      generalize hNN : cpN (D K_M_image 0) (D K_M_now 0) = N at *
      generalize hgp : sGap N j (sNd N j) (sCh N j) = gp
      have loop : ∀ (q k : Nat), k + q = min n (2 * cC N j) → (∀ x, x < k → decide (D K_M_tells 0 x = sRow N j (x + 2)) = true) → oG k_Mod_check 6 82 [some (.inr (K_MOD, 0)), some (.inl (nI j)), some (.inl (nI n)), some (.inl gp), some (.inl (nI k))] [] M4 (oQM (s_check D (nI j)) M) := by
        intro q
        have stop : ∀ k, k ≤ min n (2 * cC N j) → sPre (fun x => decide (D K_M_tells 0 x = sRow N j (x + 2))) (min n (2 * cC N j)) = k → oG k_Mod_check 6 147 [some (.inr (K_MOD, 0)), some (.inl (nI j)), some (.inl (nI n)), some (.inl gp), some (.inl (nI k))] [] M4 (oQM (s_check D (nI j)) M) := by
          intro k hk hs
          have sc : sChk N (D K_M_tells 0) j n = if k = n ∧ n = 2 * cC N j then 0 else 1 + nI k := by
            unfold sChk
            rw [hs]
          refine oRun_ok 2 rfl ?_
          refine g_ic_ne rfl (fun h => ?_) (fun h => ?_)
          · rw [nIe (by omega) (by omega)] at h
            refine oRun_ok 3 rfl ?_
            exact g_iret rfl rfl rfl (oQM.of (by rw [fin, sc, if_neg (fun z => h z.1)]) m4 fr4)
          · rw [nIe (by omega) (by omega)] at h
            refine oRun_ok 5 rfl ?_
            rw [e7, L2, nI_times]
            refine g_ic_ne rfl (fun h2 => ?_) (fun h2 => ?_)
            · rw [nIe (by omega) (by omega)] at h2
              refine oRun_ok 3 rfl ?_
              exact g_iret rfl rfl rfl (oQM.of (by rw [fin, sc, if_neg (fun z => h2 (by omega))]) m4 fr4)
            · rw [nIe (by omega) (by omega)] at h2
              refine oRun_ok 2 rfl ?_
              exact g_iret rfl rfl rfl (oQM.of (by rw [fin, sc, if_pos ⟨h, by omega⟩]) m4 fr4)
        induction q with
        | zero =>
          intro k hk ha
          have e : sPre (fun x => decide (D K_M_tells 0 x = sRow N j (x + 2))) (min n (2 * cC N j)) = k := by
            rw [show min n (2 * cC N j) = k by omega]
            exact sPre_all ha
          refine oRun_ok 2 rfl ?_
          refine g_ic_ge rfl (fun h => stop k (by omega) e) (fun h => ?_)
          refine oRun_ok 5 rfl ?_
          rw [e7, L2, nI_times]
          refine g_ic_ge rfl (fun h => stop k (by omega) e) (fun h2 => ?_)
          rw [nIle (by omega) (by omega)] at h h2
          omega
        | succ q ih =>
          intro k hk ha
          refine oRun_ok 2 rfl ?_
          refine g_ic_ge rfl (fun h => ?_) (fun h => ?_)
          · rw [nIle (by omega) (by omega)] at h
            omega
          refine oRun_ok 5 rfl ?_
          rw [e7, L2, nI_times]
          refine g_ic_ge rfl (fun h => ?_) (fun h => ?_)
          · rw [nIle (by omega) (by omega)] at h
            omega
          refine oRun_ok 3 rfl ?_
          refine g_iald k rfl rfl rfl (by omega) ?_
          rw [show M4 59 0 k = D K_M_tells 0 k by rw [eT]]
          refine oRun_ok 3 rfl ?_
          rw [L2, nIrem (by omega) (by decide) (by decide)]
          have ed : nI k / 2 + 1 = nI (k / 2 + 1) := by rw [L2, nIdiv (by omega) (by decide) (by decide), nI_1]
          have join : ∀ v, v = sRow N j (k + 2) → oG k_Mod_check 6 138 [some (.inr (K_MOD, 0)), some (.inl (nI j)), some (.inl (nI n)), some (.inl gp), some (.inl (nI k))] [.inl v, .inl (D K_M_tells 0 k)] M4 (oQM (s_check D (nI j)) M) := by
            intro v hv
            refine g_ic_ne rfl (fun h => ?_) (fun h => ?_)
            · exact stop k (by omega) (sPre_stop ha (decide_eq_false (by rw [← hv]; exact h)) _ (by omega))
            · refine oRun_ok 2 rfl ?_
              rw [nI_1]
              refine ih (k + 1) (by omega) (fun x hx => ?_)
              by_cases z : x = k
              · rw [z]
                exact decide_eq_true (by rw [← hv]; exact h)
              · exact ha x (by omega)
          have hr : ∀ c, c = k % 2 → sRow N j (k + 2) = if c = 0 then (sC N j (sNd N j) (sCh N j) (k / 2 + 1)).1 else (sC N j (sNd N j) (sCh N j) (k / 2 + 1)).2 := by
            rintro c rfl
            unfold sRow
            rw [show (k + 2) % 2 = k % 2 by omega, show (k + 2) / 2 = k / 2 + 1 by omega]
          refine g_if_ne rfl (fun h => ?_) (fun h => ?_)
          · have hk2 : k % 2 = 1 := by
              have : ¬ k % 2 = 0 := fun z => h (by rw [z]; rfl)
              omega
            refine oRun_ok 7 rfl ?_
            rw [ed]
            refine g_iald (k / 2 + 1) rfl rfl rfl (by omega) ?_
            exact join _ (by rw [hr 1 hk2.symm, if_neg (by decide)]; exact (eX _ (by omega)).2)
          · have hk2 : k % 2 = 0 := by
              have h : nI (k % 2) = nI 0 := h
              exact (nIe (by omega) (by omega)).mp h
            refine oRun_ok 7 rfl ?_
            rw [ed]
            refine g_iald (k / 2 + 1) rfl rfl rfl (by omega) ?_
            refine oRun_ok 1 rfl ?_
            exact join _ (by rw [hr 0 hk2.symm, if_pos rfl]; exact (eX _ (by omega)).1)
      exact loop (min n (2 * cC N j)) 0 (by omega) (fun x hx => absurd hx (by omega))
    · refine oRun_ok 1 rfl ?_
      exact g_iret rfl rfl rfl (oQM.of (by unfold s_check; rw [if_neg h14]; exact congrArg (fun z => (z, oUp D K_MOD 0 40 0)) (if_pos h34)) p0 fr0)
  · refine oRun_ok 1 rfl ?_
    exact g_iret rfl rfl rfl (oQM.of (by unfold s_check; rw [if_pos h14]) p0 fr0)

