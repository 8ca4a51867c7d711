/-! ===== near ===== -/
def sN1 (v num : Nat → Int32) : Nat → Int32 × Int32 → Int32 × Int32
  | 0, st => st
  | n + 1, st => if v n < (sN1 v num n st).1 then (v n, num n) else sN1 v num n st
def sFar (N : Nat → Int32) (s d i : Nat) : Int32 := f_Mod_size ((sC N d (sNd N d) (sCh N d) i).1 - N (4 + 2 * s)) + f_Mod_size ((sC N d (sNd N d) (sCh N d) i).2 - N (4 + 2 * s + 1))
def sNo (N : Nat → Int32) (s : Nat) : Nat → Int32 × Int32
  | 0 => (1000000, 0)
  | d + 1 => sN1 (sFar N s d) (fun i => 100 * nI d + nI i) (cC N d + 1) (sNo N s d)
def s_near (D : oM) (s w : Int32) : Int32 × oM := if f_Oak_isWithin s 0 (D K_M_now 0 1 - 1) = 0 then (vBAD, D) else if f_Oak_isWithin w 0 1 = 0 then (vBAD, D) else if D K_M_now 0 2 = 0 then (vNONE, D) else (if w = 0 then (sNo (D K_M_now 0) s.toNatClampNeg (cD (D K_M_now 0))).2 else (sNo (D K_M_now 0) s.toNatClampNeg (cD (D K_M_now 0))).1, D)
theorem sFar_rng {N : Nat → Int32} {s d i : Nat} (hN : oNOk N) (hs : s < cS N) (hd : d < cD N) (hi : i ≤ cC N d) : inR (sFar N s d i) 0 1000 := by
  obtain ⟨⟨a1, a2⟩, b1, b2⟩ := sC_far (nd := sNd N d) hN hd (sCh_rng hN hd) hi
  obtain ⟨⟨c1, c2⟩, d1, d2⟩ := hN.2.2.2.1 s hs
  unfold sFar
  have e1 : ((sC N d (sNd N d) (sCh N d) i).1 - N (4 + 2 * s)).toInt = (sC N d (sNd N d) (sCh N d) i).1.toInt - (N (4 + 2 * s)).toInt := iSub (by omega)
  have e2 : ((sC N d (sNd N d) (sCh N d) i).2 - N (4 + 2 * s + 1)).toInt = (sC N d (sNd N d) (sCh N d) i).2.toInt - (N (4 + 2 * s + 1)).toInt := iSub (by omega)
  have f1 := size_t (v := (sC N d (sNd N d) (sCh N d) i).1 - N (4 + 2 * s)) (by omega)
  have f2 := size_t (v := (sC N d (sNd N d) (sCh N d) i).2 - N (4 + 2 * s + 1)) (by omega)
  unfold inR
  rw [iAdd (by rw [f1, f2]; omega), f1, f2]
  omega
theorem p_near (M D : oM) (s w : Int32) (hI : oI M D) : oCt 5 k_Oak_near [.inr (K_OAK, 0), .inl s, .inl w] M (oQC (s_near D s w) M) := by
  obtain ⟨hDD, d4⟩ := oND hI.ok
  refine oCt.of (ls := [some (.inr (K_OAK, 0)), some (.inl s), some (.inl w), none, none, none, none, none]) mok_Oak_near rfl rfl ?_
  refine oRun_ok 3 rfl ?_
  refine g_callV rfl rfl rfl rfl rfl mok_Land_hasStone (by decide) (c_Land_hasStone _ 0 _) ?_
  rintro r5 M5 ⟨rfl, e⟩; rw [e]
  rw [hI.st]
  refine g_if_eq rfl (fun h8 => ?_) (fun h8 => ?_)
  · refine oRun_ok 1 rfl ?_
    exact g_iret rfl rfl rfl (oQC.same hI (if_pos h8))
  · refine oRun_ok 3 rfl ?_
    refine g_callS rfl rfl rfl rfl mok_Oak_isWithin (by decide) (c_Oak_isWithin _ _ _ _) ?_
    rintro r14 M14 ⟨rfl, e⟩; rw [e]
    refine g_if_ne rfl (fun h17 => ?_) (fun h17 => ?_)
    · obtain ⟨i, hi, hi8, rfl, ei⟩ := oHasS hI h8
      refine oRun_ok 3 rfl ?_
      rw [show M 1 0 4 = _ from hI.dd]
      refine g_if_ne rfl (fun h30 => ?_) (fun h30 => ?_)
      · refine oRun_ok 6 rfl ?_
        have fin : s_near D (nI i) w = (if w = 0 then (sNo (D K_M_now 0) i (cD (D K_M_now 0))).2 else (sNo (D K_M_now 0) i (cD (D K_M_now 0))).1, D) := (if_neg h8).trans ((if_neg h17).trans ((if_neg h30).trans (by rw [ei])))
        have outer : ∀ (q d : Nat) (M1 : oM) (x6 x7 : Option oV), d + q = cD (D K_M_now 0) → oFr oCsc M M1 → oG k_Oak_near 5 46 [some (.inr (K_OAK, 0)), some (.inl (nI i)), some (.inl w), some (.inl (sNo (D K_M_now 0) i d).2), some (.inl (sNo (D K_M_now 0) i d).1), some (.inl (nI d)), x6, x7] [] M1 (oQC (s_near D (nI i) w) M) := by
          intro q
          induction q with
          | zero =>
            intro d M1 x6 x7 hd hF
            obtain rfl : d = cD (D K_M_now 0) := by omega
            have hI1 := hI.cls hF.sc
            refine oRun_ok 4 rfl ?_
            rw [show M1 1 0 4 = nI (cD (D K_M_now 0)) from hI1.dd.trans hDD]
            refine g_ic_ge rfl (fun _ => ?_) (fun z => absurd (Int32.le_refl _) z)
            refine oRun_ok 1 rfl ?_
            refine g_if_ne rfl (fun z => ?_) (fun z => ?_)
            · refine oRun_ok 1 rfl ?_
              exact g_iret rfl rfl rfl (oQC.look hI (by rw [fin, if_neg z]) hF)
            · refine oRun_ok 2 rfl ?_
              exact g_iret rfl rfl rfl (oQC.look hI (by rw [fin, if_pos z]) hF)
          | succ q ih =>
            intro d M1 x6 x7 hd hF
            have hI1 := hI.cls hF.sc
            have hd' : d < cD (D K_M_now 0) := by omega
            obtain ⟨hC, c10⟩ := oNC (hI.dok hd')
            refine oRun_ok 4 rfl ?_
            rw [show M1 1 0 4 = nI (cD (D K_M_now 0)) from hI1.dd.trans hDD]
            refine g_ic_ge rfl (fun z => ?_) (fun _ => ?_)
            · rw [nIle (by omega) (by omega)] at z
              omega
            refine oRun_ok 3 rfl ?_
            refine g_callV rfl rfl rfl rfl rfl mok_Walk_traceDeed (by decide) (c_Walk_traceDeed _ _ 0 d hI1.ok hI1.rl hd') ?_
            rintro r2 M2 ⟨rfl, f1, f2, f3⟩
            have hF2 := hF.tr f3.ws
            have hI2 := hI.cls hF2.sc
            obtain ⟨sx, sy⟩ := hI2.sxy hi
            refine oRun_ok 2 rfl ?_
            have inner : ∀ (q' k : Nat) (x7 : Option oV), k + q' = cC (D K_M_now 0) d + 1 → oG k_Oak_near 5 70 [some (.inr (K_OAK, 0)), some (.inl (nI i)), some (.inl w), some (.inl (sN1 (sFar (D K_M_now 0) i d) (fun i => 100 * nI d + nI i) k (sNo (D K_M_now 0) i d)).2), some (.inl (sN1 (sFar (D K_M_now 0) i d) (fun i => 100 * nI d + nI i) k (sNo (D K_M_now 0) i d)).1), some (.inl (nI d)), some (.inl (nI k)), x7] [] M2 (oQC (s_near D (nI i) w) M) := by
              intro q'
              induction q' with
              | zero =>
                intro k x7 hk
                obtain rfl : k = cC (D K_M_now 0) d + 1 := by omega
                refine oRun_ok 4 rfl ?_
                rw [show M2 9 0 3 = _ from f1]
                refine g_ic_ge rfl (fun _ => ?_) (fun z => absurd (Int32.le_refl _) z)
                refine oRun_ok 2 rfl ?_
                rw [nI_1]
                exact ih (d + 1) M2 _ _ (by omega) hF2
              | succ q' ih' =>
                intro k x7 hk
                refine oRun_ok 4 rfl ?_
                rw [show M2 9 0 3 = _ from f1]
                refine g_ic_ge rfl (fun z => ?_) (fun _ => ?_)
                · rw [nIle (by omega) (by omega)] at z
                  omega
                refine oRun_ok 4 rfl ?_
                refine g_iald k rfl rfl rfl (by omega) ?_
                refine oRun_ok 4 rfl ?_
                refine g_iald k rfl rfl rfl (by omega) ?_
                refine oRun_ok 4 rfl ?_
                refine g_iald i rfl rfl rfl (by omega) ?_
                refine oRun_ok 4 rfl ?_
                refine g_iald i rfl rfl rfl (by omega) ?_
                refine g_callS rfl rfl rfl rfl mok_Oak_farApart (by decide) (c_Oak_farApart _ _ _ _ _) ?_
                rintro r N1 ⟨rfl, e⟩; rw [e]
                rw [show f_Oak_farApart (M2 10 0 k) (M2 11 0 k) (M2 2 0 i) (M2 3 0 i) = sFar (D K_M_now 0) i d k by
                  rw [show M2 10 0 k = _ from (f2 k (by omega)).1, show M2 11 0 k = _ from (f2 k (by omega)).2, show M2 2 0 i = _ from sx, show M2 3 0 i = _ from sy]
                  rfl]
                have ihk := ih' (k + 1) (some (.inl (sFar (D K_M_now 0) i d k))) (by omega)
                rw [sN1] at ihk
                refine oRun_ok 3 rfl ?_
                refine g_ic_ge rfl (fun z => ?_) (fun z => ?_)
                · rw [if_neg (fun y => Int32.not_lt.mpr z y)] at ihk
                  refine oRun_ok 2 rfl ?_
                  rw [nI_1]
                  exact ihk
                · rw [if_pos (Int32.not_le.mp z)] at ihk
                  refine oRun_ok 10 rfl ?_
                  rw [nI_1]
                  exact ihk
            exact inner (cC (D K_M_now 0) d + 1) 0 _ (by omega)
        exact outer (cD (D K_M_now 0)) 0 M _ _ (by omega) oFr.rf
      · refine oRun_ok 1 rfl ?_
        exact g_iret rfl rfl rfl (oQC.same hI ((if_neg h8).trans ((if_neg h17).trans (if_pos h30))))
    · refine oRun_ok 1 rfl ?_
      exact g_iret rfl rfl rfl (oQC.same hI ((if_neg h8).trans (if_pos h17)))
/-- the model's two numbers beside the class's -/
def oNr (st st' : Int32 × Int32) : Prop := (st = (1000000, 0) ∧ st' = (-1, vNONE)) ∨ (st' = st ∧ 0 ≤ st.1.toInt ∧ ¬ st.2 = vNONE)
theorem oNr_step {v num : Int32} {st st' : Int32 × Int32} (h : oNr st st') (hv : inR v 0 1000) (hn : ¬ num = vNONE) : oNr (if v < st.1 then (v, num) else st) (if st'.1 < 0 ∨ v < st'.1 then (v, num) else st') := by
  have t0 : (0 : Int32).toInt = 0 := rfl
  rcases h with ⟨rfl, rfl⟩ | ⟨rfl, h1, h2⟩
  · rw [if_pos (by rw [iLt]; show v.toInt < 1000000; have := hv.2; omega), if_pos (Or.inl (by decide))]
    exact Or.inr ⟨rfl, hv.1, hn⟩
  · have h0 : ¬ st'.1 < 0 := fun z => by
      have := iLt.mp z
      omega
    by_cases y : v < st'.1
    · rw [if_pos y, if_pos (Or.inr y)]
      exact Or.inr ⟨rfl, hv.1, hn⟩
    · rw [if_neg y, if_neg (fun z => z.elim h0 y)]
      exact Or.inr ⟨rfl, h1, h2⟩
theorem num_ne {d i : Nat} (hd : d < 4) (hi : i < 11) : ¬ 100 * nI d + nI i = vNONE := by
  rw [show (100 : Int32) = nI 100 from rfl, nI_times, nI_plus]
  intro h
  have : (nI (100 * d + i)).toInt = (vNONE).toInt := by rw [h]
  rw [nIt (by omega), show vNONE.toInt = -1000000005 from rfl] at this
  omega
theorem q_near (C M D : oM) (s w : Int32) (hI : oI C D) (hD : oPs D M) : oCt 6 k_Mod_near [.inr (K_MOD, 0), .inl s, .inl w] M (oQM (s_near D s w) M) := by
  have hN := hD.now
  obtain ⟨hDD, d4⟩ := oND hI.ok
  refine oCt.of (ls := [some (.inr (K_MOD, 0)), some (.inl s), some (.inl w), none, none, none, none, none, none]) mok_Mod_near rfl rfl ?_
  refine oRun_ok 2 rfl ?_
  refine g_callV rfl rfl rfl rfl rfl mok_Mod_isStone (by decide) (c_Mod_isStone _ _) ?_
  rintro r2 M2 ⟨rfl, e⟩; rw [e]
  rw [hN]
  refine g_if_eq rfl (fun h5 => ?_) (fun h5 => ?_)
  · refine oRun_ok 1 rfl ?_
    exact g_iret rfl rfl rfl (oQM.same hD (if_pos h5))
  · refine oRun_ok 3 rfl ?_
    refine g_callS rfl rfl rfl rfl mok_Mod_in (by decide) (c_Mod_in _ _ _ _) ?_
    rintro r11 M11 ⟨rfl, e⟩; rw [e]
    refine g_if_ne rfl (fun h14 => ?_) (fun h14 => ?_)
    · obtain ⟨i, hi, hi8, rfl, ei⟩ := oHasS hI h5
      refine oRun_ok 6 rfl ?_
      have fin : s_near D (nI i) w = if D K_M_now 0 2 = 0 then (vNONE, D) else (if w = 0 then (sNo (D K_M_now 0) i (cD (D K_M_now 0))).2 else (sNo (D K_M_now 0) i (cD (D K_M_now 0))).1, D) := (if_neg h5).trans ((if_neg h14).trans (by rw [ei]))
      have outer : ∀ (q d : Nat) (M1 : oM) (st : Int32 × Int32) (x6 x7 x8 : Option oV), d + q = cD (D K_M_now 0) → oNr (sNo (D K_M_now 0) i d) st → (0 < d → ¬ st.2 = vNONE) → (d = 0 → st.2 = vNONE) → oMs M M1 → oG k_Mod_near 6 29 [some (.inr (K_MOD, 0)), some (.inl (nI i)), some (.inl w), some (.inl st.2), some (.inl st.1), some (.inl (nI d)), x6, x7, x8] [] M1 (oQM (s_near D (nI i) w) M) := by
        intro q
        induction q with
        | zero =>
          intro d M1 st x6 x7 x8 hd hr hne hze hF
          obtain rfl : d = cD (D K_M_now 0) := by omega
          refine oRun_ok 4 rfl ?_
          refine g_iald 2 rfl rfl rfl (by decide) ?_
          rw [show M1 32 0 = _ from (hF.at (by decide) 0).trans hN, hDD]
          refine g_ic_ge rfl (fun _ => ?_) (fun z => absurd (Int32.le_refl _) z)
          refine oRun_ok 2 rfl ?_
          refine g_ic_ne rfl (fun z => ?_) (fun z => ?_)
          · have hst : st = sNo (D K_M_now 0) i (cD (D K_M_now 0)) := by
              rcases hr with ⟨r1, r2⟩ | ⟨r1, -⟩
              · rw [r2] at z
                exact absurd rfl z
              · exact r1
            have c0 : ¬ D K_M_now 0 2 = 0 := by
              intro y
              rw [hDD] at y
              have y : nI (cD (D K_M_now 0)) = nI 0 := y
              rw [nIe (by omega) (by omega)] at y
              exact z (hze y)
            rw [if_neg c0] at fin
            refine oRun_ok 1 rfl ?_
            refine g_if_ne rfl (fun z2 => ?_) (fun z2 => ?_)
            · refine oRun_ok 1 rfl ?_
              exact g_iret rfl rfl rfl (oQM.look hD (by rw [fin, if_neg z2, hst]) hF)
            · refine oRun_ok 2 rfl ?_
              exact g_iret rfl rfl rfl (oQM.look hD (by rw [fin, if_pos z2, hst]) hF)
          · have c0 : D K_M_now 0 2 = 0 := by
              rw [hDD]
              have : cD (D K_M_now 0) = 0 := by
                rcases Nat.eq_zero_or_pos (cD (D K_M_now 0)) with y | y
                · exact y
                · exact absurd z (hne y)
              rw [this]
              rfl
            rw [if_pos c0] at fin
            refine oRun_ok 2 rfl ?_
            exact g_iret rfl rfl rfl (oQM.look hD fin hF)
        | succ q ih =>
          intro d M1 st x6 x7 x8 hd hr hne hze hF
          have en : M1 K_M_now 0 = D K_M_now 0 := (hF.at (by decide) 0).trans hN
          have hd' : d < cD (D K_M_now 0) := by omega
          obtain ⟨hC, c10⟩ := oNC (hI.dok hd')
          refine oRun_ok 4 rfl ?_
          refine g_iald 2 rfl rfl rfl (by decide) ?_
          rw [show M1 32 0 = _ from en, hDD]
          refine g_ic_ge rfl (fun z => ?_) (fun _ => ?_)
          · rw [nIle (by omega) (by omega)] at z
            omega
          refine oRun_ok 2 rfl ?_
          refine g_callV rfl rfl rfl rfl rfl mok_Mod_findCorners (by decide) (c_Mod_findCorners _ _ d en hI.ok hd') ?_
          rintro r1 M2 ⟨rfl, f1, f2, f3, f4, f5⟩
          have hF2 := hF.tr (oMs_mf f5 f2)
          have en2 : M2 32 0 = D K_M_now 0 := (f5 32 0 oMf_now).trans en
          refine oRun_ok 3 rfl ?_
          have i1 : (4 : Int32) + 2 * nI i = nI (4 + 2 * i) := by simp only [L4, L2, nI_times, nI_plus]
          have i2 : (4 : Int32) + 2 * nI i + 1 = nI (4 + 2 * i + 1) := by simp only [L4, L2, L1, nI_times, nI_plus]
          have inner : ∀ (q' k : Nat) (st : Int32 × Int32) (x8 : Option oV), k + q' = cC (D K_M_now 0) d + 1 → oNr (sN1 (sFar (D K_M_now 0) i d) (fun i => 100 * nI d + nI i) k (sNo (D K_M_now 0) i d)) st → (0 < k → ¬ st.2 = vNONE) → oG k_Mod_near 6 51 [some (.inr (K_MOD, 0)), some (.inl (nI i)), some (.inl w), some (.inl st.2), some (.inl st.1), some (.inl (nI d)), some (.inl (sGap (D K_M_now 0) d (sNd (D K_M_now 0) d) (sCh (D K_M_now 0) d))), some (.inl (nI k)), x8] [] M2 (oQM (s_near D (nI i) w) M) := by
            intro q'
            induction q' with
            | zero =>
              intro k st x8 hk hr hne
              obtain rfl : k = cC (D K_M_now 0) d + 1 := by omega
              refine oRun_ok 3 rfl ?_
              rw [show M2 31 0 7 = _ from f1]
              refine g_ic_gt rfl (fun _ => ?_) (fun z => absurd ((nIlt (by omega) (by omega)).mpr (by omega)) z)
              refine oRun_ok 2 rfl ?_
              rw [nI_1]
              exact ih (d + 1) M2 st _ _ _ (by omega) hr (fun _ => hne (by omega)) (fun y => absurd y (by omega)) hF2
            | succ q' ih' =>
              intro k st x8 hk hr hne
              refine oRun_ok 3 rfl ?_
              rw [show M2 31 0 7 = _ from f1]
              refine g_ic_gt rfl (fun z => ?_) (fun _ => ?_)
              · rw [nIlt (by omega) (by omega)] at z
                omega
              refine oRun_ok 3 rfl ?_
              refine g_iald k rfl rfl rfl (by omega) ?_
              refine oRun_ok 7 rfl ?_
              refine g_iald (4 + 2 * i) rfl rfl i1 (by omega) ?_
              refine oRun_ok 1 rfl ?_
              refine g_callS rfl rfl rfl rfl mok_Mod_size (by decide) (c_Mod_size _ _) ?_
              rintro r N1 ⟨rfl, e⟩; rw [e]
              refine oRun_ok 3 rfl ?_
              refine g_iald k rfl rfl rfl (by omega) ?_
              refine oRun_ok 9 rfl ?_
              refine g_iald (4 + 2 * i + 1) rfl rfl i2 (by omega) ?_
              refine oRun_ok 1 rfl ?_
              refine g_callS rfl rfl rfl rfl mok_Mod_size (by decide) (c_Mod_size _ _) ?_
              rintro r N1 ⟨rfl, e⟩; rw [e]
              refine oRun_ok 3 rfl ?_
              rw [show f_Mod_size (M2 38 0 k - M2 32 0 (4 + 2 * i)) + f_Mod_size (M2 39 0 k - M2 32 0 (4 + 2 * i + 1)) = sFar (D K_M_now 0) i d k by
                rw [show M2 38 0 k = _ from (f3 k (by omega)).1, show M2 39 0 k = _ from (f3 k (by omega)).2, en2]
                rfl]
              have hv := sFar_rng (i := k) hI.ok hi hd' (by omega)
              have hst := oNr_step hr hv (num_ne (d := d) (i := k) (by omega) (by omega))
              have nn := num_ne (d := d) (i := k) (by omega) (by omega)
              generalize hve : sFar (D K_M_now 0) i d k = v at hv hst ⊢
              have next : ∀ st2 : Int32 × Int32, st2 = (if st.1 < 0 ∨ v < st.1 then (v, 100 * nI d + nI k) else st) → oG k_Mod_near 6 153 [some (.inr (K_MOD, 0)), some (.inl (nI i)), some (.inl w), some (.inl st2.2), some (.inl st2.1), some (.inl (nI d)), some (.inl (sGap (D K_M_now 0) d (sNd (D K_M_now 0) d) (sCh (D K_M_now 0) d))), some (.inl (nI k)), some (.inl v)] [] M2 (oQM (s_near D (nI i) w) M) := by
                intro st2 h2
                refine oRun_ok 2 rfl ?_
                rw [nI_1]
                refine ih' (k + 1) st2 _ (by omega) ?_ (fun _ => ?_)
                · rw [sN1, hve, h2]
                  exact hst
                · by_cases y : st.1 < 0 ∨ v < st.1
                  · rw [h2, if_pos y]
                    exact nn
                  · rw [h2, if_neg y]
                    rcases hr with ⟨-, r2⟩ | ⟨r1, -, r3⟩
                    · exact absurd (Or.inl (by rw [r2]; decide)) y
                    · rw [r1]
                      exact r3
              refine g_if_lt rfl (fun a => ?_) (fun a => ?_)
              · refine oRun_ok 8 rfl ?_
                refine g_if_lt rfl (fun _ => ?_) (fun b => absurd a b)
                refine oRun_ok 3 rfl ?_
                exact next (v, 100 * nI d + nI k) (by rw [if_pos (Or.inl a)])
              · refine oRun_ok 2 rfl ?_
                refine g_ic_ge rfl (fun b => ?_) (fun b => ?_)
                · refine oRun_ok 3 rfl ?_
                  refine g_if_lt rfl (fun c => absurd c a) (fun _ => ?_)
                  refine oRun_ok 2 rfl ?_
                  refine g_ic_ge rfl (fun _ => ?_) (fun c => absurd b c)
                  refine oRun_ok 2 rfl ?_
                  exact next st (by rw [if_neg (fun y => y.elim a (fun z => Int32.not_lt.mpr b z))])
                · refine oRun_ok 8 rfl ?_
                  refine g_if_lt rfl (fun c => absurd c a) (fun _ => ?_)
                  refine oRun_ok 2 rfl ?_
                  refine g_ic_ge rfl (fun c => absurd c b) (fun _ => ?_)
                  refine oRun_ok 3 rfl ?_
                  exact next (v, 100 * nI d + nI k) (by rw [if_pos (Or.inr (Int32.not_le.mp b))])
          exact inner (cC (D K_M_now 0) d + 1) 0 st _ (by omega) hr (fun z => absurd z (by omega))
      exact outer (cD (D K_M_now 0)) 0 M (-1, vNONE) _ _ _ (by omega) (Or.inl ⟨rfl, rfl⟩) (fun z => absurd z (by omega)) (fun _ => rfl) oMs.rf
    · refine oRun_ok 1 rfl ?_
      exact g_iret rfl rfl rfl (oQM.same hD ((if_neg h5).trans (if_pos h14)))

