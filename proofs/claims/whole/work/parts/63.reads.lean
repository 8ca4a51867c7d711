/-! ===== reads, deal, pour ===== -/
def sRd (N : Nat → Int32) (c : Nat → Int32) (d z : Nat) : Int32 := if sPre (fun j => decide (c j = vNONE ∨ (j < 2 * (cC N d + 1) ∧ c j = sRow N d j))) z = z then vNONE else nI (sPre (fun j => decide (c j = vNONE ∨ (j < 2 * (cC N d + 1) ∧ c j = sRow N d j))) z)
def s_reads (D : oM) (s d : Int32) : Int32 × oM := if f_Oak_isSheet s = 0 then (vBAD, D) else if f_Oak_isWithin d 0 (D K_M_now 0 2 - 1) = 0 then (vBAD, D) else if D K_M_sorts 0 s.toNatClampNeg = -1 then (vNOTHING, D) else (sRd (D K_M_now 0) (fun k => D K_M_cells 0 (24 * s.toNatClampNeg + k)) d.toNatClampNeg (D K_M_sizes 0 s.toNatClampNeg).toNatClampNeg, D)
theorem p_reads (M D : oM) (s d : Int32) (hI : oI M D) : oCt 5 k_Oak_reads [.inr (K_OAK, 0), .inl s, .inl d] M (oQC (s_reads D s d) M) := by
  refine oCt.of (ls := [some (.inr (K_OAK, 0)), some (.inl s), some (.inl d), none, none, none]) mok_Oak_reads rfl rfl ?_
  refine oRun_ok 1 rfl ?_
  refine g_callS rfl rfl rfl rfl mok_Oak_isSheet (by decide) (c_Oak_isSheet _ _) ?_
  rintro r1 M1 ⟨rfl, e⟩; rw [e]
  refine g_if_eq rfl (fun h4 => ?_) (fun h4 => ?_)
  · refine oRun_ok 1 rfl ?_
    exact g_iret rfl rfl rfl (oQC.same hI (if_pos h4))
  · refine oRun_ok 3 rfl ?_
    refine g_callV rfl rfl rfl rfl rfl mok_Land_hasDeed (by decide) (c_Land_hasDeed _ 0 _) ?_
    rintro r12 M12 ⟨rfl, e⟩; rw [e]
    rw [hI.dd]
    refine g_if_ne rfl (fun h15 => ?_) (fun h15 => ?_)
    · obtain ⟨i, hi, rfl, ei⟩ := sheet_in h4
      obtain ⟨j, hj, hj4, rfl, ej⟩ := oHasD hI h15
      obtain ⟨g1, g2, g3, g4, g5⟩ := hI.sheet i hi
      obtain ⟨hC, c10⟩ := oNC (hI.dok hj)
      obtain ⟨z, hz, ez⟩ := nI_ex (v := D K_M_sizes 0 i) (n := 25) g4.1 (by have := g4.2; omega)
      refine oRun_ok 3 rfl ?_
      refine g_aald i rfl rfl rfl (by omega) (show i = 0 * 0 + i by omega) ?_
      refine oRun_ok 4 rfl ?_
      rw [show M 26 i 0 = _ from g1]
      refine g_ic_ne rfl (fun h33 => ?_) (fun h33 => ?_)
      · have fin : s_reads D (nI i) (nI j) = (sRd (D K_M_now 0) (fun k => D K_M_cells 0 (24 * i + k)) j z, D) := (if_neg h4).trans ((if_neg h15).trans ((if_neg (by rw [ei]; exact h33)).trans (by rw [ei, ej, ez, nIc (by omega)])))
        refine oRun_ok 3 rfl ?_
        refine g_callV rfl rfl rfl rfl rfl mok_Walk_traceDeed (by decide) (c_Walk_traceDeed _ _ 0 j hI.ok hI.rl hj) ?_
        rintro r M' ⟨rfl, f1, f2, f3⟩
        refine oRun_ok 2 rfl ?_
        have eR : ∀ k, k = K_ROW ∨ k = K_RPL → M' k i = M k i := fun k hk => f3 k i (fun q => by
          rcases hk with rfl | rfl <;> rcases q with q | ⟨-, q⟩ <;> exact absurd q (by decide))
        have e1 : M' 26 i 1 = nI z := by rw [show M' 26 i = M 26 i from eR _ (Or.inl rfl)]; exact g2.trans ez
        have e5 : ∀ k, k < 24 → M' 27 i k = D K_M_cells 0 (24 * i + k) := fun k hk => by
          rw [show M' 27 i = M 27 i from eR _ (Or.inr rfl)]
          exact g5 k hk
        generalize hNN : D K_M_now 0 = N at *
        have row : ∀ p, p < 2 * cC N j + 2 → (if p % 2 = 0 then M' K_WX 0 (p / 2) else M' K_WY 0 (p / 2)) = sRow N j p := by
          intro p hp
          unfold sRow
          rw [(f2 (p / 2) (by omega)).1, (f2 (p / 2) (by omega)).2]
        have loop : ∀ (q k : Nat) (x5 : Option oV), k + q = z → (∀ x, x < k → decide (D K_M_cells 0 (24 * i + x) = vNONE ∨ (x < 2 * (cC N j + 1) ∧ D K_M_cells 0 (24 * i + x) = sRow N j x)) = true) → oG k_Oak_reads 5 51 [some (.inr (K_OAK, 0)), some (.inl (nI i)), some (.inl (nI j)), some (.inr (K_ROW, i)), some (.inl (nI k)), x5] [] M' (oQC (s_reads D (nI i) (nI j)) M) := by
          intro q
          induction q with
          | zero =>
            intro k x5 hk ha
            obtain rfl : k = z := by omega
            refine oRun_ok 3 rfl ?_
            rw [e1]
            refine g_ic_ge rfl (fun _ => ?_) (fun h => absurd (Int32.le_refl _) h)
            refine oRun_ok 1 rfl ?_
            refine g_iret rfl rfl rfl (oQC.look hI ?_ f3.ws)
            rw [fin]
            unfold sRd
            rw [if_pos (sPre_all ha)]
          | succ q ih =>
            intro k x5 hk ha
            refine oRun_ok 3 rfl ?_
            rw [e1]
            refine g_ic_ge rfl (fun h => ?_) (fun _ => ?_)
            · rw [nIle (by omega) (by omega)] at h
              omega
            have from98 : ∀ b : Bool, (b = true ↔ (k < 2 * (cC N j + 1) ∧ D K_M_cells 0 (24 * i + k) = sRow N j k)) → oG k_Oak_reads 5 98 [some (.inr (K_OAK, 0)), some (.inl (nI i)), some (.inl (nI j)), some (.inr (K_ROW, i)), some (.inl (nI k)), x5] [.inl (bI b)] M' (oQC (s_reads D (nI i) (nI j)) M) := by
              intro b hb
              have next : (D K_M_cells 0 (24 * i + k) = vNONE ∨ b = true) → oG k_Oak_reads 5 120 [some (.inr (K_OAK, 0)), some (.inl (nI i)), some (.inl (nI j)), some (.inr (K_ROW, i)), some (.inl (nI k)), some (.inl (bI b))] [] M' (oQC (s_reads D (nI i) (nI j)) M) := by
                intro h
                refine oRun_ok 2 rfl ?_
                rw [nI_1]
                refine ih (k + 1) _ (by omega) (fun x hx => ?_)
                by_cases y : x = k
                · rw [y]
                  exact decide_eq_true (h.imp id hb.mp)
                · exact ha x (by omega)
              refine oRun_ok 4 rfl ?_
              refine g_iald k rfl rfl rfl (by omega) ?_
              rw [e5 k (by omega)]
              refine oRun_ok 1 rfl ?_
              refine g_ic_eq rfl (fun h => next (Or.inl h)) (fun h => ?_)
              refine oRun_ok 1 rfl ?_
              refine g_if_ne rfl (fun h2 => next (Or.inr (bI_ne.mp h2))) (fun h2 => ?_)
              have hbf : b = false := bI_eq0.mp h2
              refine oRun_ok 1 rfl ?_
              refine g_iret rfl rfl rfl (oQC.look hI ?_ f3.ws)
              have hs := sPre_stop ha (decide_eq_false (by
                rintro (y | y)
                · exact h y
                · have := hb.mpr y
                  rw [hbf] at this
                  cases this)) z (by omega)
              rw [fin]
              unfold sRd
              rw [hs, if_neg (by omega)]
            refine oRun_ok 6 rfl ?_
            rw [show M' 9 0 3 = _ from f1, L2, nI_times]
            refine g_ic_ge rfl (fun h => ?_) (fun h => ?_)
            · rw [nIle (by omega) (by omega)] at h
              refine oRun_ok 1 rfl ?_
              exact from98 false ⟨fun y => (by cases y), fun y => by omega⟩
            · rw [nIle (by omega) (by omega)] at h
              refine oRun_ok 3 rfl ?_
              refine g_iald k rfl rfl rfl (by omega) ?_
              rw [e5 k (by omega)]
              refine oRun_ok 3 rfl ?_
              refine g_callV rfl rfl rfl rfl rfl mok_Walk_cornersInRow (by decide) (c_Walk_cornersInRow _ 0 k (by omega)) ?_
              rintro r M1 ⟨rfl, e⟩; rw [e, row k (by omega)]
              refine g_ic_ne rfl (fun h2 => ?_) (fun h2 => ?_)
              · refine oRun_ok 1 rfl ?_
                exact from98 false ⟨fun y => (by cases y), fun y => absurd y.2 h2⟩
              · refine oRun_ok 2 rfl ?_
                exact from98 true ⟨fun _ => ⟨by omega, h2⟩, fun _ => rfl⟩
        exact loop z 0 _ (by omega) (fun x hx => absurd hx (by omega))
      · refine oRun_ok 1 rfl ?_
        exact g_iret rfl rfl rfl (oQC.same hI ((if_neg h4).trans ((if_neg h15).trans (if_pos (by rw [ei]; exact h33)))))
    · refine oRun_ok 1 rfl ?_
      exact g_iret rfl rfl rfl (oQC.same hI ((if_neg h4).trans (if_pos h15)))
theorem q_reads (C M D : oM) (s d : Int32) (hI : oI C D) (hD : oPs D M) : oCt 6 k_Mod_reads [.inr (K_MOD, 0), .inl s, .inl d] M (oQM (s_reads D s d) M) := by
  have hN := hD.now
  have q1 : M 51 0 = D K_M_sorts 0 := hD.1 _ (by decide)
  have q2 : M 52 0 = D K_M_sizes 0 := hD.1 _ (by decide)
  have q3 : M 53 0 = D K_M_cells 0 := hD.1 _ (by decide)
  refine oCt.of (ls := [some (.inr (K_MOD, 0)), some (.inl s), some (.inl d), none, none, none, none]) mok_Mod_reads rfl rfl ?_
  refine oRun_ok 1 rfl ?_
  refine g_callS rfl rfl rfl rfl mok_Mod_isSheet (by decide) (c_Mod_isSheet _ _) ?_
  rintro r1 M1 ⟨rfl, e⟩; rw [e]
  refine g_if_eq rfl (fun h4 => ?_) (fun h4 => ?_)
  · refine oRun_ok 1 rfl ?_
    exact g_iret rfl rfl rfl (oQM.same hD (if_pos h4))
  · refine oRun_ok 2 rfl ?_
    refine g_callV rfl rfl rfl rfl rfl mok_Mod_isDeed (by decide) (c_Mod_isDeed _ _) ?_
    rintro r9 M9 ⟨rfl, e⟩; rw [e]
    rw [hN]
    refine g_if_ne rfl (fun h12 => ?_) (fun h12 => ?_)
    · obtain ⟨i, hi, rfl, ei⟩ := sheet_in h4
      obtain ⟨j, hj, hj4, rfl, ej⟩ := oHasD hI h12
      obtain ⟨g1, g2, g3, g4, g5⟩ := hI.sheet i hi
      obtain ⟨hC, c10⟩ := oNC (hI.dok hj)
      obtain ⟨z, hz, ez⟩ := nI_ex (v := D K_M_sizes 0 i) (n := 25) g4.1 (by have := g4.2; omega)
      refine oRun_ok 3 rfl ?_
      refine g_iald i rfl rfl rfl (by omega) ?_
      rw [q1]
      refine g_if_ge rfl (fun h24 => ?_) (fun h24 => ?_)
      · have h24 : ¬ D K_M_sorts 0 i = -1 := fun y => by rw [y] at h24; exact absurd h24 (by decide)
        have fin : s_reads D (nI i) (nI j) = (sRd (D K_M_now 0) (fun k => D K_M_cells 0 (24 * i + k)) j z, D) := (if_neg h4).trans ((if_neg h12).trans ((if_neg (by rw [ei]; exact h24)).trans (by rw [ei, ej, ez, nIc (by omega)])))
        refine oRun_ok 2 rfl ?_
        refine g_callV rfl rfl rfl rfl rfl mok_Mod_findCorners (by decide) (c_Mod_findCorners _ _ j hN hI.ok hj) ?_
        rintro r M' ⟨rfl, f1, f2, f3, f4, f5⟩
        refine oRun_ok 3 rfl ?_
        have mm := oMs_mf f5 f2
        have e2 : M' 52 0 = D K_M_sizes 0 := (mm.at (by decide) 0).trans q2
        have e3 : M' 53 0 = D K_M_cells 0 := (mm.at (by decide) 0).trans q3
        have e7 : M' 31 0 7 = nI (cC (D K_M_now 0) j) := f1
        generalize hNN : D K_M_now 0 = N at *
        generalize hgp : sGap N j (sNd N j) (sCh N j) = gp
        have loop : ∀ (q k : Nat) (x5 x6 : Option oV), k + q = z → (∀ x, x < k → decide (D K_M_cells 0 (24 * i + x) = vNONE ∨ (x < 2 * (cC N j + 1) ∧ D K_M_cells 0 (24 * i + x) = sRow N j x)) = true) → oG k_Mod_reads 6 40 [some (.inr (K_MOD, 0)), some (.inl (nI i)), some (.inl (nI j)), some (.inl gp), some (.inl (nI k)), x5, x6] [] M' (oQM (s_reads D (nI i) (nI j)) M) := by
          intro q
          induction q with
          | zero =>
            intro k x5 x6 hk ha
            obtain rfl : k = z := by omega
            refine oRun_ok 4 rfl ?_
            refine g_iald i rfl rfl rfl (by omega) ?_
            rw [e2, ez]
            refine g_ic_ge rfl (fun _ => ?_) (fun h => absurd (Int32.le_refl _) h)
            refine oRun_ok 1 rfl ?_
            refine g_iret rfl rfl rfl (oQM.look hD ?_ mm)
            rw [fin]
            unfold sRd
            rw [if_pos (sPre_all ha)]
          | succ q ih =>
            intro k x5 x6 hk ha
            refine oRun_ok 4 rfl ?_
            refine g_iald i rfl rfl rfl (by omega) ?_
            rw [e2, ez]
            refine g_ic_ge rfl (fun h => ?_) (fun _ => ?_)
            · rw [nIle (by omega) (by omega)] at h
              omega
            refine oRun_ok 7 rfl ?_
            refine g_iald (24 * i + k) rfl rfl (by simp only [L24, nI_times, nI_plus]) (by omega) ?_
            rw [e3]
            have from114 : ∀ b : Bool, (b = true ↔ (k < 2 * (cC N j + 1) ∧ D K_M_cells 0 (24 * i + k) = sRow N j k)) → oG k_Mod_reads 6 114 [some (.inr (K_MOD, 0)), some (.inl (nI i)), some (.inl (nI j)), some (.inl gp), some (.inl (nI k)), some (.inl (D K_M_cells 0 (24 * i + k))), x6] [.inl (bI b)] M' (oQM (s_reads D (nI i) (nI j)) M) := by
              intro b hb
              have next : (D K_M_cells 0 (24 * i + k) = vNONE ∨ b = true) → oG k_Mod_reads 6 131 [some (.inr (K_MOD, 0)), some (.inl (nI i)), some (.inl (nI j)), some (.inl gp), some (.inl (nI k)), some (.inl (D K_M_cells 0 (24 * i + k))), some (.inl (bI b))] [] M' (oQM (s_reads D (nI i) (nI j)) M) := by
                intro h
                refine oRun_ok 2 rfl ?_
                rw [nI_1]
                refine ih (k + 1) _ _ (by omega) (fun x hx => ?_)
                by_cases y : x = k
                · rw [y]
                  exact decide_eq_true (h.imp id hb.mp)
                · exact ha x (by omega)
              refine oRun_ok 3 rfl ?_
              refine g_ic_eq rfl (fun h => next (Or.inl h)) (fun h => ?_)
              refine oRun_ok 1 rfl ?_
              refine g_if_ne rfl (fun h2 => next (Or.inr (bI_ne.mp h2))) (fun h2 => ?_)
              have hbf : b = false := bI_eq0.mp h2
              refine oRun_ok 1 rfl ?_
              refine g_iret rfl rfl rfl (oQM.look hD ?_ mm)
              have hs := sPre_stop ha (decide_eq_false (by
                rintro (y | y)
                · exact h y
                · have := hb.mpr y
                  rw [hbf] at this
                  cases this)) z (by omega)
              rw [fin]
              unfold sRd
              rw [hs, if_neg (by omega)]
            refine oRun_ok 6 rfl ?_
            have ed : nI k / 2 = nI (k / 2) := by rw [L2, nIdiv (by omega) (by decide) (by decide)]
            rw [ed, e7]
            refine g_ic_gt rfl (fun h => ?_) (fun h => ?_)
            · rw [nIlt (by omega) (by omega)] at h
              refine oRun_ok 1 rfl ?_
              exact from114 false ⟨fun y => (by cases y), fun y => by omega⟩
            · rw [nIlt (by omega) (by omega)] at h
              refine oRun_ok 4 rfl ?_
              rw [show oRem (nI k) 2 = nI (k % 2) by rw [L2, nIrem (by omega) (by decide) (by decide)]]
              have join : ∀ v, v = sRow N j k → oG k_Mod_reads 6 106 [some (.inr (K_MOD, 0)), some (.inl (nI i)), some (.inl (nI j)), some (.inl gp), some (.inl (nI k)), some (.inl (D K_M_cells 0 (24 * i + k))), x6] [.inl v, .inl (D K_M_cells 0 (24 * i + k))] M' (oQM (s_reads D (nI i) (nI j)) M) := by
                rintro v rfl
                refine g_ic_ne rfl (fun h2 => ?_) (fun h2 => ?_)
                · refine oRun_ok 1 rfl ?_
                  exact from114 false ⟨fun y => (by cases y), fun y => absurd y.2 h2⟩
                · refine oRun_ok 2 rfl ?_
                  exact from114 true ⟨fun _ => ⟨by omega, h2⟩, fun _ => rfl⟩
              refine g_if_ne rfl (fun h2 => ?_) (fun h2 => ?_)
              · have hk2 : ¬ k % 2 = 0 := fun y => h2 (by rw [y]; rfl)
                refine oRun_ok 5 rfl ?_
                rw [ed]
                refine g_iald (k / 2) rfl rfl rfl (by omega) ?_
                exact join _ (by unfold sRow; rw [if_neg hk2]; exact (f3 _ (by omega)).2)
              · have hk2 : k % 2 = 0 := by
                  have h2 : nI (k % 2) = nI 0 := h2
                  exact (nIe (by omega) (by omega)).mp h2
                refine oRun_ok 5 rfl ?_
                rw [ed]
                refine g_iald (k / 2) rfl rfl rfl (by omega) ?_
                refine oRun_ok 1 rfl ?_
                exact join _ (by unfold sRow; rw [if_pos hk2]; exact (f3 _ (by omega)).1)
        exact loop z 0 _ _ (by omega) (fun x hx => absurd hx (by omega))
      · have h24 : D K_M_sorts 0 i = -1 := by
          rcases sort3 g3 with y | y | y
          · exact y
          · rw [y] at h24; exact absurd (by decide) h24
          · rw [y] at h24; exact absurd (by decide) h24
        refine oRun_ok 1 rfl ?_
        exact g_iret rfl rfl rfl (oQM.same hD ((if_neg h4).trans ((if_neg h12).trans (if_pos (by rw [ei]; exact h24)))))
    · refine oRun_ok 1 rfl ?_
      exact g_iret rfl rfl rfl (oQM.same hD ((if_neg h4).trans (if_pos h12)))

