/-! ===== pour ===== -/
def n_pour (N : Nat → Int32) (d : Nat) (f : Nat → Int32) : Nat → Nat → Int32
  | 0 => N
  | t + 1 => n_add (n_pour N d f t) d 0 (f t / 100) (oRem (f t) 100)
theorem n_pour_c {N : Nat → Int32} {d : Nat} {f : Nat → Int32} : ∀ {t : Nat}, cC N d + t ≤ 10 → cC (n_pour N d f t) d = cC N d + t ∧ ∀ j, ¬ (20 + 35 * d ≤ j ∧ j < 55 + 35 * d) → n_pour N d f t j = N j
  | 0, _ => ⟨rfl, fun _ _ => rfl⟩
  | t + 1, h => by
    obtain ⟨i1, i2⟩ := n_pour_c (N := N) (d := d) (f := f) (t := t) (by omega)
    refine ⟨?_, fun j hj => ?_⟩
    · show cC (n_add (n_pour N d f t) d _ _ _) d = _
      rw [n_add_c (by omega)]
      omega
    · show n_add (n_pour N d f t) d _ _ _ j = _
      rw [n_add_s (by omega) j hj, i2 j hj]
def sPo (f : Nat → Int32) (z : Nat) : Nat := sPre (fun k => !decide (f_Oak_isRun (f k) = 0)) z
def s_pour (D : oM) (s d : Int32) : Int32 × oM := if f_Oak_isSheet s = 0 then (vBAD, D) else if f_Oak_isWithin d 0 (D K_M_now 0 2 - 1) = 0 then (vBAD, D) else if D K_M_sorts 0 s.toNatClampNeg = -1 then (vNOTHING, D)
  else if 10 < cC (D K_M_now 0) d.toNatClampNeg + sPo (fun k => D K_M_cells 0 (24 * s.toNatClampNeg + k)) (D K_M_sizes 0 s.toNatClampNeg).toNatClampNeg then (vFULL, D)
  else (nI (sPo (fun k => D K_M_cells 0 (24 * s.toNatClampNeg + k)) (D K_M_sizes 0 s.toNatClampNeg).toNatClampNeg), oSR D K_M_now (n_pour (D K_M_now 0) d.toNatClampNeg (fun k => D K_M_cells 0 (24 * s.toNatClampNeg + k)) (sPo (fun k => D K_M_cells 0 (24 * s.toNatClampNeg + k)) (D K_M_sizes 0 s.toNatClampNeg).toNatClampNeg)))
theorem sPo_run {f : Nat → Int32} : ∀ {z k : Nat}, k < sPo f z → ¬ f_Oak_isRun (f k) = 0
  | 0, k, h => absurd h (by unfold sPo; exact Nat.not_lt_zero _)
  | z + 1, k, h => by
    unfold sPo sPre at h
    split at h
    · rename_i q
      by_cases y : k = z
      · rw [y]
        have := q.2
        simpa using this
      · have hz : sPo f z = z := q.1
        exact sPo_run (z := z) (by omega)
    · exact sPo_run (z := z) h
theorem p_pour (M D : oM) (s d : Int32) (hI : oI M D) : oCt 3 k_Oak_pour [.inr (K_OAK, 0), .inl s, .inl d] M (oQC (s_pour D s d) M) := by
  refine oCt.of (ls := [some (.inr (K_OAK, 0)), some (.inl s), some (.inl d), none, none, none, none]) mok_Oak_pour rfl rfl ?_
  refine oRun_ok 1 rfl ?_
  refine g_callS rfl rfl rfl rfl mok_Oak_isSheet (by decide) (c_Oak_isSheet _ _) ?_
  rintro r1 M1 ⟨rfl, e⟩; rw [e]
  refine g_if_eq rfl (fun h4 => ?_) (fun h4 => ?_)
  · refine oRun_ok 1 rfl ?_
    exact g_iret rfl rfl rfl (oQC.same hI (if_pos h4))
  · refine oRun_ok 3 rfl ?_
    refine g_callV rfl rfl rfl rfl rfl mok_Land_hasDeed (by decide) (c_Land_hasDeed _ 0 _) ?_
    rintro r12 M12 ⟨rfl, e⟩; rw [e]
    rw [hI.dd]
    refine g_if_ne rfl (fun h15 => ?_) (fun h15 => ?_)
    · obtain ⟨i, hi, rfl, ei⟩ := sheet_in h4
      obtain ⟨j, hj, hj4, rfl, ej⟩ := oHasD hI h15
      obtain ⟨g1, g2, g3, g4, g5⟩ := hI.sheet i hi
      obtain ⟨hC, c10⟩ := oNC (hI.dok hj)
      obtain ⟨z, hz, ez⟩ := nI_ex (v := D K_M_sizes 0 i) (n := 25) g4.1 (by have := g4.2; omega)
      have hM4 : M 5 (4 * 0 + j) 4 = nI (cC (D K_M_now 0) j) := ((hI.rd hj).1 4 (by decide)).trans hC
      refine oRun_ok 3 rfl ?_
      refine g_aald i rfl rfl rfl (by omega) (show i = 0 * 0 + i by omega) ?_
      refine oRun_ok 4 rfl ?_
      rw [show M 26 i 0 = _ from g1]
      refine g_ic_ne rfl (fun h33 => ?_) (fun h33 => ?_)
      · refine oRun_ok 2 rfl ?_
        generalize hf : (fun k => D K_M_cells 0 (24 * i + k)) = f
        have e5 : ∀ k, k < 24 → M 27 i k = f k := fun k hk => by
          rw [← hf]
          exact g5 k hk
        have fin : s_pour D (nI i) (nI j) = if 10 < cC (D K_M_now 0) j + sPo f z then (vFULL, D) else (nI (sPo f z), oSR D K_M_now (n_pour (D K_M_now 0) j f (sPo f z))) := (if_neg h4).trans ((if_neg h15).trans ((if_neg (by rw [ei]; exact h33)).trans (by rw [ei, ej, ez, nIc (by omega), hf])))
        have rz := sPre_le (fun k => !decide (f_Oak_isRun (f k) = 0)) z
        generalize hc : cC (D K_M_now 0) j = c at *
        have tail : ∀ r, r = sPo f z → oG k_Oak_pour 3 71 [some (.inr (K_OAK, 0)), some (.inl (nI i)), some (.inl (nI j)), some (.inr (K_ROW, i)), some (.inl (nI r)), none, none] [] M (oQC (s_pour D (nI i) (nI j)) M) := by
          intro r hr
          have rz : r ≤ z := by rw [hr]; exact rz
          rw [← hr] at fin
          refine oRun_ok 4 rfl ?_
          refine g_aald j rfl rfl rfl hj4 rfl ?_
          refine oRun_ok 6 rfl ?_
          rw [hM4, show (10 : Int32) = nI 10 from rfl, nIsub c10]
          refine g_ic_le rfl (fun h => ?_) (fun h => ?_)
          · rw [nIle (by omega) (by omega)] at h
            rw [if_neg (by omega)] at fin
            refine oRun_ok 2 rfl ?_
            have loop : ∀ (q k : Nat) (M1 : oM), k + q = r → oI M1 (oSR D K_M_now (n_pour (D K_M_now 0) j f k)) → oFr oCls M M1 → (∀ x, x < 24 → M1 27 i x = f x) → oG k_Oak_pour 3 101 [some (.inr (K_OAK, 0)), some (.inl (nI i)), some (.inl (nI j)), some (.inr (K_ROW, i)), some (.inl (nI r)), some (.inr (K_DEED, 4 * 0 + j)), some (.inl (nI k))] [] M1 (oQC (s_pour D (nI i) (nI j)) M) := by
              intro q
              induction q with
              | zero =>
                intro k M1 hk h1 hF h5
                obtain rfl : k = r := by omega
                refine oRun_ok 2 rfl ?_
                refine g_ic_ge rfl (fun _ => ?_) (fun h => absurd (Int32.le_refl _) h)
                refine oRun_ok 1 rfl ?_
                exact g_iret rfl rfl rfl (oQC.of fin h1 hF)
              | succ q ih =>
                intro k M1 hk h1 hF h5
                obtain ⟨n1, n2⟩ := n_pour_c (N := D K_M_now 0) (d := j) (f := f) (t := k) (by omega)
                rw [hc] at n1
                generalize hN : n_pour (D K_M_now 0) j f k = N at *
                have hrun : ¬ f_Oak_isRun (f k) = 0 := sPo_run (z := z) (by omega)
                obtain ⟨y1, y2⟩ := run_ok hrun
                have hd2 : j < cD ((oSR D K_M_now N) K_M_now 0) := by
                  rw [oSR_at]
                  unfold cD
                  rw [n2 2 (by omega)]
                  exact hj
                have hM5 : M1 K_DEED (4 * 0 + j) 4 = nI (c + k) := by
                  have q1 := (h1.rd hd2).1 4 (by decide)
                  have q2 := (oNC (h1.dok hd2)).1
                  rw [oSR_at] at q1 q2
                  rw [q1, q2, n1]
                have h3 := h1.add (d := j) (a := 0) (b := f k / 100) (c := oRem (f k) 100) hd2 (by rw [oSR_at, n1]; omega) ⟨by decide, by decide⟩ y1 y2
                rw [oSR_at, n1, oSR_sr] at h3
                refine oRun_ok 2 rfl ?_
                refine g_ic_ge rfl (fun h => ?_) (fun _ => ?_)
                · rw [nIle (by omega) (by omega)] at h
                  omega
                refine oRun_ok 5 rfl ?_
                refine g_iald k rfl rfl rfl (by omega) ?_
                refine oRun_ok 5 rfl ?_
                refine g_iald k rfl rfl rfl (by omega) ?_
                rw [h5 k (by omega)]
                refine oRun_ok 2 rfl ?_
                refine g_callV rfl rfl rfl rfl rfl mok_Deed_addCall (by decide) (c_Deed_addCall _ (4 * 0 + j) (c + k) _ _ _ hM5 (by omega)) ?_
                rintro r4 N4 ⟨rfl, e⟩; rw [e]
                refine oRun_ok 2 rfl ?_
                rw [nI_1]
                refine ih (k + 1) _ (by omega) ?_ ((((hF.cl (by decide)).cl (by decide)).cl (by decide)).cl (by decide)) (fun x hx => ?_)
                · show oI _ (oSR D K_M_now (n_add (n_pour (D K_M_now 0) j f k) j _ _ _))
                  rw [hN]
                  exact h3
                · rw [oUp_k (by decide), oUp_k (by decide), oUp_k (by decide), oUp_k (by decide)]
                  exact h5 x hx
            refine loop r 0 M (by omega) ?_ oFr.rf e5
            show oI M (oSR D K_M_now (D K_M_now 0))
            rw [oSR_self]
            exact hI
          · rw [nIle (by omega) (by omega)] at h
            rw [if_pos (by omega)] at fin
            refine oRun_ok 1 rfl ?_
            exact g_iret rfl rfl rfl (oQC.same hI fin)
        have loop1 : ∀ (q k : Nat), k + q = z → (∀ x, x < k → (!decide (f_Oak_isRun (f x) = 0)) = true) → oG k_Oak_pour 3 43 [some (.inr (K_OAK, 0)), some (.inl (nI i)), some (.inl (nI j)), some (.inr (K_ROW, i)), some (.inl (nI k)), none, none] [] M (oQC (s_pour D (nI i) (nI j)) M) := by
          intro q
          induction q with
          | zero =>
            intro k hk ha
            obtain rfl : k = z := by omega
            refine oRun_ok 3 rfl ?_
            rw [show M 26 i 1 = nI k from g2.trans ez]
            refine g_ic_ge rfl (fun _ => ?_) (fun h => absurd (Int32.le_refl _) h)
            exact tail k (sPre_all ha).symm
          | succ q ih =>
            intro k hk ha
            refine oRun_ok 3 rfl ?_
            rw [show M 26 i 1 = nI z from g2.trans ez]
            refine g_ic_ge rfl (fun h => ?_) (fun _ => ?_)
            · rw [nIle (by omega) (by omega)] at h
              omega
            refine oRun_ok 3 rfl ?_
            refine g_iald k rfl rfl rfl (by omega) ?_
            rw [e5 k (by omega)]
            refine g_callS rfl rfl rfl rfl mok_Oak_isRun (by decide) (c_Oak_isRun _ _) ?_
            rintro r1 N1 ⟨rfl, e⟩; rw [e]
            refine g_if_eq rfl (fun h => ?_) (fun h => ?_)
            · exact tail k (sPre_stop ha (by simp [h]) z (by omega)).symm
            · refine oRun_ok 2 rfl ?_
              rw [nI_1]
              refine ih (k + 1) (by omega) (fun x hx => ?_)
              by_cases y : x = k
              · rw [y]
                simp [h]
              · exact ha x (by omega)
        exact loop1 z 0 (by omega) (fun x hx => absurd hx (by omega))
      · refine oRun_ok 1 rfl ?_
        exact g_iret rfl rfl rfl (oQC.same hI ((if_neg h4).trans ((if_neg h15).trans (if_pos (by rw [ei]; exact h33)))))
    · refine oRun_ok 1 rfl ?_
      exact g_iret rfl rfl rfl (oQC.same hI ((if_neg h4).trans (if_pos h15)))
theorem q_pour (C M D : oM) (s d : Int32) (hI : oI C D) (hD : oPs D M) : oCt 4 k_Mod_pour [.inr (K_MOD, 0), .inl s, .inl d] M (oQM (s_pour D s d) M) := by
  have hN0 := hD.now
  have q1 : M 51 0 = D K_M_sorts 0 := hD.1 _ (by decide)
  have q2 : M 52 0 = D K_M_sizes 0 := hD.1 _ (by decide)
  have q3 : M 53 0 = D K_M_cells 0 := hD.1 _ (by decide)
  refine oCt.of (ls := [some (.inr (K_MOD, 0)), some (.inl s), some (.inl d), none, none, none, none]) mok_Mod_pour rfl rfl ?_
  refine oRun_ok 1 rfl ?_
  refine g_callS rfl rfl rfl rfl mok_Mod_isSheet (by decide) (c_Mod_isSheet _ _) ?_
  rintro r1 M1 ⟨rfl, e⟩; rw [e]
  refine g_if_eq rfl (fun h4 => ?_) (fun h4 => ?_)
  · refine oRun_ok 1 rfl ?_
    exact g_iret rfl rfl rfl (oQM.same hD (if_pos h4))
  · refine oRun_ok 2 rfl ?_
    refine g_callV rfl rfl rfl rfl rfl mok_Mod_isDeed (by decide) (c_Mod_isDeed _ _) ?_
    rintro r9 M9 ⟨rfl, e⟩; rw [e]
    rw [hN0]
    refine g_if_ne rfl (fun h12 => ?_) (fun h12 => ?_)
    · obtain ⟨i, hi, rfl, ei⟩ := sheet_in h4
      obtain ⟨j, hj, hj4, rfl, ej⟩ := oHasD hI h12
      obtain ⟨g1, g2, g3, g4, g5⟩ := hI.sheet i hi
      obtain ⟨hC, c10⟩ := oNC (hI.dok hj)
      obtain ⟨z, hz, ez⟩ := nI_ex (v := D K_M_sizes 0 i) (n := 25) g4.1 (by have := g4.2; omega)
      refine oRun_ok 3 rfl ?_
      refine g_iald i rfl rfl rfl (by omega) ?_
      rw [q1]
      refine g_if_ge rfl (fun h24 => ?_) (fun h24 => ?_)
      · have h24 : ¬ D K_M_sorts 0 i = -1 := fun y => by rw [y] at h24; exact absurd h24 (by decide)
        refine oRun_ok 2 rfl ?_
        generalize hf : (fun k => D K_M_cells 0 (24 * i + k)) = f
        have e5 : ∀ k, D K_M_cells 0 (24 * i + k) = f k := fun k => by rw [← hf]
        have fin : s_pour D (nI i) (nI j) = if 10 < cC (D K_M_now 0) j + sPo f z then (vFULL, D) else (nI (sPo f z), oSR D K_M_now (n_pour (D K_M_now 0) j f (sPo f z))) := (if_neg h4).trans ((if_neg h12).trans ((if_neg (by rw [ei]; exact h24)).trans (by rw [ei, ej, ez, nIc (by omega), hf])))
        have rz := sPre_le (fun k => !decide (f_Oak_isRun (f k) = 0)) z
        generalize hc : cC (D K_M_now 0) j = c at *
        have tail : ∀ r, r = sPo f z → oG k_Mod_pour 4 66 [some (.inr (K_MOD, 0)), some (.inl (nI i)), some (.inl (nI j)), some (.inl (nI r)), none, none, none] [] M (oQM (s_pour D (nI i) (nI j)) M) := by
          intro r hr
          have rz : r ≤ z := by rw [hr]; exact rz
          rw [← hr] at fin
          refine oRun_ok 3 rfl ?_
          refine g_callV rfl rfl rfl rfl rfl mok_Mod_of (by decide) (c_Mod_of _ j 4 hj4 (by decide)) ?_
          rintro r1 N1 ⟨rfl, e⟩; rw [e, hN0, hC]
          refine oRun_ok 3 rfl ?_
          rw [nI_plus, show (10 : Int32) = nI 10 from rfl]
          refine g_ic_le rfl (fun h => ?_) (fun h => ?_)
          · rw [nIle (by omega) (by omega)] at h
            rw [if_neg (by omega)] at fin
            refine oRun_ok 2 rfl ?_
            have loop : ∀ (q k : Nat) (M1 : oM) (x5 x6 : Option oV), k + q = r → M1 K_M_now 0 = n_pour (D K_M_now 0) j f k → n_pour (D K_M_now 0) j f k (20 + 35 * j + 4) = nI (c + k) → oFr (oKi K_M_now 0) M M1 → oG k_Mod_pour 4 85 [some (.inr (K_MOD, 0)), some (.inl (nI i)), some (.inl (nI j)), some (.inl (nI r)), some (.inl (nI k)), x5, x6] [] M1 (oQM (s_pour D (nI i) (nI j)) M) := by
              intro q
              induction q with
              | zero =>
                intro k M1 x5 x6 hk h1 h4 hF
                obtain rfl : k = r := by omega
                refine oRun_ok 2 rfl ?_
                refine g_ic_ge rfl (fun _ => ?_) (fun h => absurd (Int32.le_refl _) h)
                refine oRun_ok 1 rfl ?_
                exact g_iret rfl rfl rfl (oQM.row (k := K_M_now) (by decide) hD fin hF h1)
              | succ q ih =>
                intro k M1 x5 x6 hk h1 h4 hF
                obtain ⟨n1, n2⟩ := n_pour_c (N := D K_M_now 0) (d := j) (f := f) (t := k) (by omega)
                rw [hc] at n1
                refine oRun_ok 2 rfl ?_
                refine g_ic_ge rfl (fun h => ?_) (fun _ => ?_)
                · rw [nIle (by omega) (by omega)] at h
                  omega
                refine oRun_ok 7 rfl ?_
                refine g_iald (24 * i + k) rfl rfl (by simp only [L24, nI_times, nI_plus]) (by omega) ?_
                rw [show M1 53 0 = D K_M_cells 0 from (hF K_M_cells 0 (fun q => absurd q.1 (by decide))).trans q3, e5 k]
                refine oRun_ok 10 rfl ?_
                refine g_callV rfl rfl rfl rfl rfl mok_Mod_comes (by decide) (c_Mod_comes _ (n_pour (D K_M_now 0) j f k) j _ _ _ h1 hj4 (by rw [n1]; exact h4) (by omega)) ?_
                rintro r4 N5 ⟨rfl, f1, f2⟩
                refine oRun_ok 3 rfl ?_
                rw [nI_1]
                refine ih (k + 1) N5 _ _ (by omega) f1 ?_ (hF.tr f2)
                show n_add (n_pour (D K_M_now 0) j f k) j _ _ _ (20 + 35 * j + 4) = _
                unfold n_add
                rw [upd_eq, n1]
                rfl
            exact loop r 0 M _ _ (by omega) hN0 hC oFr.rf
          · rw [nIle (by omega) (by omega)] at h
            rw [if_pos (by omega)] at fin
            refine oRun_ok 1 rfl ?_
            exact g_iret rfl rfl rfl (oQM.same hD fin)
        have loop1 : ∀ (q k : Nat), k + q = z → (∀ x, x < k → (!decide (f_Oak_isRun (f x) = 0)) = true) → oG k_Mod_pour 4 33 [some (.inr (K_MOD, 0)), some (.inl (nI i)), some (.inl (nI j)), some (.inl (nI k)), none, none, none] [] M (oQM (s_pour D (nI i) (nI j)) M) := by
          intro q
          induction q with
          | zero =>
            intro k hk ha
            obtain rfl : k = z := by omega
            refine oRun_ok 4 rfl ?_
            refine g_iald i rfl rfl rfl (by omega) ?_
            rw [q2, ez]
            refine g_ic_ge rfl (fun _ => ?_) (fun h => absurd (Int32.le_refl _) h)
            exact tail k (sPre_all ha).symm
          | succ q ih =>
            intro k hk ha
            refine oRun_ok 4 rfl ?_
            refine g_iald i rfl rfl rfl (by omega) ?_
            rw [q2, ez]
            refine g_ic_ge rfl (fun h => ?_) (fun _ => ?_)
            · rw [nIle (by omega) (by omega)] at h
              omega
            refine oRun_ok 7 rfl ?_
            refine g_iald (24 * i + k) rfl rfl (by simp only [L24, nI_times, nI_plus]) (by omega) ?_
            rw [q3, e5 k]
            refine g_callS rfl rfl rfl rfl mok_Mod_isRun (by decide) (c_Mod_isRun _ _) ?_
            rintro r1 N1 ⟨rfl, e⟩; rw [e]
            refine g_if_eq rfl (fun h => ?_) (fun h => ?_)
            · have h : f_Oak_isRun (f k) = 0 := h
              exact tail k (sPre_stop ha (by simp [h]) z (by omega)).symm
            · have h : ¬ f_Oak_isRun (f k) = 0 := h
              refine oRun_ok 2 rfl ?_
              rw [nI_1]
              refine ih (k + 1) (by omega) (fun x hx => ?_)
              by_cases y : x = k
              · rw [y]
                simp [h]
              · exact ha x (by omega)
        exact loop1 z 0 (by omega) (fun x hx => absurd hx (by omega))
      · have h24 : D K_M_sorts 0 i = -1 := by
          rcases sort3 g3 with y | y | y
          · exact y
          · rw [y] at h24; exact absurd (by decide) h24
          · rw [y] at h24; exact absurd (by decide) h24
        refine oRun_ok 1 rfl ?_
        exact g_iret rfl rfl rfl (oQM.same hD ((if_neg h4).trans ((if_neg h12).trans (if_pos (by rw [ei]; exact h24)))))
    · refine oRun_ok 1 rfl ?_
      exact g_iret rfl rfl rfl (oQM.same hD ((if_neg h4).trans (if_pos h12)))

