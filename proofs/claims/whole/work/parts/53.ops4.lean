/-! ===== deedTold, set ===== -/
def s_told5 (N : Nat → Int32) (j : Nat) (w : Int32) : Int32 := if w = 5 then sNd N j else if w = 6 then sCh N j else if w = 7 then sRk N j else N (20 + 35 * j + w.toNatClampNeg)
def s_deedTold (D : oM) (d w : Int32) : Int32 × oM := if f_Oak_isWithin d 0 (D K_M_now 0 2 - 1) = 0 then (vBAD, D) else if f_Oak_isWithin w 0 7 = 0 then (vBAD, D) else (s_told5 (D K_M_now 0) d.toNatClampNeg w, D)
theorem p_deedTold (M D : oM) (d w : Int32) (hI : oI M D) : oCt 3 k_Oak_deedTold [.inr (K_OAK, 0), .inl d, .inl w] M (oQC (s_deedTold D d w) M) := by
  refine oCt.of (ls := [some (.inr (K_OAK, 0)), some (.inl d), some (.inl w), none]) mok_Oak_deedTold rfl rfl ?_
  refine oRun_ok 3 rfl ?_
  refine g_callV rfl rfl rfl rfl rfl mok_Land_hasDeed (by decide) (c_Land_hasDeed _ 0 _) ?_
  rintro r5 M5 ⟨rfl, e⟩; rw [e]
  rw [hI.dd]
  refine g_if_ne rfl (fun h8 => ?_) (fun h8 => ?_)
  · obtain ⟨j, hj, hj4, rfl, ej⟩ := oHasD hI h8
    have hR := (hI.rd hj).1
    have fin : ∀ (v u : Int32) (M' : oM), ¬ f_Oak_isWithin v 0 7 = 0 → s_told5 (D K_M_now 0) j v = u → oFr oCsc M M' → oQC (s_deedTold D (nI j) v) M (some u) M' := by
      intro v u M' h1 h2 h3
      refine oQC.look hI ((if_neg h8).trans ((if_neg h1).trans ?_)) h3
      rw [ej, h2]
    refine oRun_ok 4 rfl ?_
    refine g_aald j rfl rfl rfl hj4 rfl ?_
    refine oRun_ok 2 rfl ?_
    refine g_tsw [(0, 72), (1, 77), (2, 82), (3, 87), (4, 92), (5, 97), (6, 106), (7, 115)] 124 rfl (by decide +kernel) rfl ⟨fun h25 => ?_, fun h25 => ?_, fun h25 => ?_, fun h25 => ?_, fun h25 => ?_, fun h25 => ?_, fun h25 => ?_, fun h25 => ?_, trivial⟩ (fun h25 => ?_)
    · subst h25
      refine oRun_ok 2 rfl ?_
      exact g_iret rfl rfl rfl (fin 0 _ M (by decide) (hR 0 (by decide)).symm oFr.rf)
    · subst h25
      refine oRun_ok 2 rfl ?_
      exact g_iret rfl rfl rfl (fin 1 _ M (by decide) (hR 1 (by decide)).symm oFr.rf)
    · subst h25
      refine oRun_ok 2 rfl ?_
      exact g_iret rfl rfl rfl (fin 2 _ M (by decide) (hR 2 (by decide)).symm oFr.rf)
    · subst h25
      refine oRun_ok 2 rfl ?_
      exact g_iret rfl rfl rfl (fin 3 _ M (by decide) (hR 3 (by decide)).symm oFr.rf)
    · subst h25
      refine oRun_ok 2 rfl ?_
      exact g_iret rfl rfl rfl (fin 4 _ M (by decide) (hR 4 (by decide)).symm oFr.rf)
    · subst h25
      refine oRun_ok 3 rfl ?_
      refine g_callV rfl rfl rfl rfl rfl mok_Land_needleOf (by decide) (c_Land_needleOf _ _ 0 j hI.ok hI.rl hj) ?_
      rintro r M' ⟨rfl, f⟩
      exact g_iret rfl rfl rfl (fin 5 _ _ (by decide) rfl f.lk)
    · subst h25
      refine oRun_ok 3 rfl ?_
      refine g_callV rfl rfl rfl rfl rfl mok_Land_chainOf (by decide) (c_Land_chainOf _ _ 0 j hI.ok hI.rl hj) ?_
      rintro r M' ⟨rfl, f⟩
      exact g_iret rfl rfl rfl (fin 6 _ _ (by decide) rfl f.lk)
    · subst h25
      refine oRun_ok 3 rfl ?_
      refine g_callV rfl rfl rfl rfl rfl mok_Land_rankOf (by decide) (c_Land_rankOf _ _ 0 j hI.ok hI.rl hj) ?_
      rintro r M' ⟨rfl, f⟩
      exact g_iret rfl rfl rfl (fin 7 _ _ (by decide) rfl f.lk)
    · refine oRun_ok 1 rfl ?_
      refine g_iret rfl rfl rfl (oQC.same hI ((if_neg h8).trans (if_pos ?_)))
      refine Decidable.byContradiction (fun z => ?_)
      obtain ⟨k, hk, rfl⟩ := wiI (m := 8) (v := w) (by decide) z
      have hk : k = 0 ∨ k = 1 ∨ k = 2 ∨ k = 3 ∨ k = 4 ∨ k = 5 ∨ k = 6 ∨ k = 7 := by omega
      rcases hk with rfl | rfl | rfl | rfl | rfl | rfl | rfl | rfl
      · exact h25 (0, 72) (by decide) rfl
      · exact h25 (1, 77) (by decide) rfl
      · exact h25 (2, 82) (by decide) rfl
      · exact h25 (3, 87) (by decide) rfl
      · exact h25 (4, 92) (by decide) rfl
      · exact h25 (5, 97) (by decide) rfl
      · exact h25 (6, 106) (by decide) rfl
      · exact h25 (7, 115) (by decide) rfl
  · refine oRun_ok 1 rfl ?_
    exact g_iret rfl rfl rfl (oQC.same hI (if_pos h8))
theorem q_deedTold (C M D : oM) (d w : Int32) (hI : oI C D) (hD : oPs D M) : oCt 4 k_Mod_deedTold [.inr (K_MOD, 0), .inl d, .inl w] M (oQM (s_deedTold D d w) M) := by
  have hN := hD.now
  refine oCt.of (ls := [some (.inr (K_MOD, 0)), some (.inl d), some (.inl w)]) mok_Mod_deedTold rfl rfl ?_
  refine oRun_ok 2 rfl ?_
  refine g_callV rfl rfl rfl rfl rfl mok_Mod_isDeed (by decide) (c_Mod_isDeed _ _) ?_
  rintro r2 M2 ⟨rfl, e⟩; rw [e]
  rw [hN]
  refine g_if_eq rfl (fun h5 => ?_) (fun h5 => ?_)
  · refine oRun_ok 1 rfl ?_
    exact g_iret rfl rfl rfl (oQM.same hD (if_pos h5))
  · refine oRun_ok 3 rfl ?_
    refine g_callS rfl rfl rfl rfl mok_Mod_in (by decide) (c_Mod_in _ _ _ _) ?_
    rintro r12 M12 ⟨rfl, e⟩; rw [e]
    refine g_if_ne rfl (fun h15 => ?_) (fun h15 => ?_)
    · obtain ⟨j, hj, hj4, rfl, ej⟩ := oHasD hI h5
      obtain ⟨k, hk, rfl⟩ := wiI (m := 8) (v := w) (by decide) h15
      have fin : ∀ (u : Int32) (M' : oM), s_told5 (D K_M_now 0) j (nI k) = u → oMs M M' → oQM (s_deedTold D (nI j) (nI k)) M (some u) M' := by
        intro u M' h2 h3
        refine oQM.look hD ((if_neg h5).trans ((if_neg h15).trans ?_)) h3
        rw [ej, h2]
      refine oRun_ok 2 rfl ?_
      refine g_ic_ge rfl (fun h23 => ?_) (fun h23 => ?_)
      · have hk5 : 5 ≤ k := (nIle (a := 5) (b := k) (by omega) (by omega)).mp h23
        refine oRun_ok 2 rfl ?_
        refine g_ic_ne rfl (fun h37 => ?_) (fun h37 => ?_)
        · have k6 : ¬ k = 5 := fun z => h37 (by rw [z]; rfl)
          refine oRun_ok 2 rfl ?_
          refine g_ic_ne rfl (fun h51 => ?_) (fun h51 => ?_)
          · have k7 : ¬ k = 6 := fun z => h51 (by rw [z]; rfl)
            obtain rfl : k = 7 := by omega
            refine oRun_ok 2 rfl ?_
            refine g_callV rfl rfl rfl rfl rfl mok_Mod_rankOf (by decide) (c_Mod_rankOf _ _ j hN hI.ok hj) ?_
            rintro r M' ⟨rfl, f⟩
            exact g_iret rfl rfl rfl (fin _ _ rfl (oMs_ml f))
          · obtain rfl : k = 6 := (nIe (a := k) (b := 6) (by omega) (by omega)).mp h51
            refine oRun_ok 2 rfl ?_
            refine g_callV rfl rfl rfl rfl rfl mok_Mod_chainOf (by decide) (c_Mod_chainOf _ _ j hN hI.ok hj) ?_
            rintro r M' ⟨rfl, f⟩
            refine oRun_ok 1 rfl ?_
            exact g_iret rfl rfl rfl (fin _ _ rfl (oMs_ml f))
        · obtain rfl : k = 5 := (nIe (a := k) (b := 5) (by omega) (by omega)).mp h37
          refine oRun_ok 2 rfl ?_
          refine g_callV rfl rfl rfl rfl rfl mok_Mod_needleOf (by decide) (c_Mod_needleOf _ _ j hN hI.ok hj) ?_
          rintro r M' ⟨rfl, f⟩
          refine oRun_ok 1 rfl ?_
          exact g_iret rfl rfl rfl (fin _ _ rfl (oMs_ml f))
      · have hk5 : ¬ 5 ≤ k := fun z => h23 ((nIle (a := 5) (b := k) (by omega) (by omega)).mpr z)
        refine oRun_ok 3 rfl ?_
        refine g_callV rfl rfl rfl rfl rfl mok_Mod_of (by decide) (c_Mod_of _ j k hj4 (by omega)) ?_
        rintro r29 M29 ⟨rfl, e⟩; rw [e]
        refine oRun_ok 1 rfl ?_
        refine g_iret rfl rfl rfl (fin _ _ ?_ oMs.rf)
        have n5 : ∀ m, 5 ≤ m → m < 8 → ¬ nI k = nI m := fun m h1 h2 z => by
          rw [nIe (by omega) (by omega)] at z
          omega
        unfold s_told5
        refine (if_neg (n5 5 (by omega) (by omega))).trans ((if_neg (n5 6 (by omega) (by omega))).trans ((if_neg (n5 7 (by omega) (by omega))).trans ?_))
        rw [nIc (by omega), hN]
    · refine oRun_ok 1 rfl ?_
      exact g_iret rfl rfl rfl (oQM.same hD ((if_neg h5).trans (if_pos h15)))
-- set
theorem oDOk_w {N : Nat → Int32} {d w : Nat} {v : Int32} (h : oDOk N d) (hw : w < 4) (hv : (w < 2 → inR v 0 29) ∧ (w = 2 → inR v 0 999) ∧ (w = 3 → inR v (-9) 9)) : oDOk (upd N (20 + 35 * d + w) v) d := by
  obtain ⟨h0, h1, h2, h3, h4, h5⟩ := h
  have c10 : cC N d ≤ 10 := (inR_nI (n := 10) h4 (by decide)).2
  have ec : cC (upd N (20 + 35 * d + w) v) d = cC N d := by unfold cC; rw [upd_ne (by omega)]
  unfold oDOk
  rw [ec]
  refine ⟨?_, ?_, ?_, ?_, ?_, fun j hj => ?_⟩
  · by_cases z : w = 0
    · subst z
      rw [show 20 + 35 * d + 0 = 20 + 35 * d from rfl, upd_eq]
      exact hv.1 (by omega)
    · rw [upd_ne (by omega)]; exact h0
  · by_cases z : w = 1
    · subst z
      rw [upd_eq]
      exact hv.1 (by omega)
    · rw [upd_ne (by omega)]; exact h1
  · by_cases z : w = 2
    · subst z
      rw [upd_eq]
      exact hv.2.1 rfl
    · rw [upd_ne (by omega)]; exact h2
  · by_cases z : w = 3
    · subst z
      rw [upd_eq]
      exact hv.2.2 rfl
    · rw [upd_ne (by omega)]; exact h3
  · rw [upd_ne (by omega)]; exact h4
  · rw [upd_ne (by omega), upd_ne (by omega), upd_ne (by omega)]
    exact h5 j hj
theorem oRD_w {M : oM} {N : Nat → Int32} {i d w : Nat} {v : Int32} (h : oRD M N i d) (hw : w < 4) : oRD (oUp M K_DEED i w v) (upd N (20 + 35 * d + w) v) i d := by
  have ec : cC (upd N (20 + 35 * d + w) v) d = cC N d := by unfold cC; rw [upd_ne (by omega)]
  unfold oRD at h ⊢
  rw [ec, oUp_k (k' := K_DK) (by decide), oUp_k (k' := K_DW) (by decide), oUp_k (k' := K_DL) (by decide)]
  refine ⟨fun x hx => ?_, fun j hj => ?_⟩
  · by_cases z : x = w
    · rw [z, upd_eq]
      exact oUp_self
    · rw [upd_ne (by omega), oUp_j z]
      exact h.1 x hx
  · rw [upd_ne (by omega), upd_ne (by omega), upd_ne (by omega)]
    exact h.2 j hj
def n_begin (N : Nat → Int32) (d : Nat) (v : Int32) : Nat → Int32 := upd (upd N (20 + 35 * d + 0) (v / 100)) (20 + 35 * d + 1) (oRem v 100)
def s_set (D : oM) (d w v : Int32) : Int32 × oM := if f_Oak_isWithin d 0 (D K_M_now 0 2 - 1) = 0 then (vBAD, D)
  else if w = 0 then (if f_Oak_isWithin v 0 999 = 0 then (vBAD, D) else (D K_M_now 0 (20 + 35 * d.toNatClampNeg + 2), oSR D K_M_now (upd (D K_M_now 0) (20 + 35 * d.toNatClampNeg + 2) v)))
  else if w = 1 then (if f_Oak_isWithin v (-9) 9 = 0 then (vBAD, D) else (D K_M_now 0 (20 + 35 * d.toNatClampNeg + 3), oSR D K_M_now (upd (D K_M_now 0) (20 + 35 * d.toNatClampNeg + 3) v)))
  else if w = 2 then (if f_Oak_isCell v = 0 then (vBAD, D) else (100 * D K_M_now 0 (20 + 35 * d.toNatClampNeg + 0) + D K_M_now 0 (20 + 35 * d.toNatClampNeg + 1), oSR D K_M_now (n_begin (D K_M_now 0) d.toNatClampNeg v)))
  else (vBAD, D)
theorem p_set (M D : oM) (d w v : Int32) (hI : oI M D) : oCt 3 k_Oak_set [.inr (K_OAK, 0), .inl d, .inl w, .inl v] M (oQC (s_set D d w v) M) := by
  refine oCt.of (ls := [some (.inr (K_OAK, 0)), some (.inl d), some (.inl w), some (.inl v), none, none]) mok_Oak_set rfl rfl ?_
  refine oRun_ok 3 rfl ?_
  refine g_callV rfl rfl rfl rfl rfl mok_Land_hasDeed (by decide) (c_Land_hasDeed _ 0 _) ?_
  rintro r5 M5 ⟨rfl, e⟩; rw [e]
  rw [hI.dd]
  refine g_if_ne rfl (fun h8 => ?_) (fun h8 => ?_)
  · obtain ⟨j, hj, hj4, rfl, ej⟩ := oHasD hI h8
    have hR := (hI.rd hj).1
    have hDo := hI.dok hj
    refine oRun_ok 4 rfl ?_
    refine g_aald j rfl rfl rfl hj4 rfl ?_
    refine oRun_ok 4 rfl ?_
    refine g_if_ne rfl (fun h30 => ?_) (fun h30 => ?_)
    · have w0 : ¬ w = 0 := h30
      refine oRun_ok 2 rfl ?_
      refine g_ic_ne rfl (fun h58 => ?_) (fun h58 => ?_)
      · refine oRun_ok 2 rfl ?_
        refine g_ic_ne rfl (fun h86 => ?_) (fun h86 => ?_)
        · refine oRun_ok 1 rfl ?_
          exact g_iret rfl rfl rfl (oQC.same hI ((if_neg h8).trans ((if_neg w0).trans ((if_neg h58).trans (if_neg h86)))))
        · refine oRun_ok 1 rfl ?_
          refine g_callS rfl rfl rfl rfl mok_Oak_isCell (by decide) (c_Oak_isCell _ _) ?_
          rintro r90 M90 ⟨rfl, e⟩; rw [e]
          refine g_if_eq rfl (fun h93 => ?_) (fun h93 => ?_)
          · subst h86
            refine oRun_ok 1 rfl ?_
            exact g_iret rfl rfl rfl (oQC.same hI ((if_neg h8).trans ((if_neg w0).trans ((if_neg h58).trans ((if_pos rfl).trans (if_pos h93))))))
          · subst h86
            refine oRun_ok 10 rfl ?_
            refine g_callV rfl rfl rfl rfl rfl mok_Deed_beginAt (by decide) (c_Deed_beginAt _ (4 * 0 + j) _) ?_
            rintro r115 M115 ⟨rfl, e⟩; rw [e]
            refine oRun_ok 1 rfl ?_
            refine g_iret rfl rfl rfl ?_
            rw [show M 5 (4 * 0 + j) 0 = _ from hR 0 (by decide), show M 5 (4 * 0 + j) 1 = _ from hR 1 (by decide)]
            obtain ⟨cx, c2, hx, h2, ex, e2⟩ := cell_in h93
            refine oQC.deed hI (N' := n_begin (D K_M_now 0) j v) (d := j) ?_ hj ?_ ((oFr.rf.up ⟨rfl, Or.inl rfl⟩).up ⟨rfl, Or.inl rfl⟩) ?_ (oRD_w (oRD_w (hI.rd hj) (by decide)) (by decide))
            · refine (if_neg h8).trans ((if_neg w0).trans ((if_neg h58).trans ((if_pos rfl).trans ((if_neg h93).trans ?_))))
              rw [ej]
            · intro i hi
              unfold n_begin
              rw [upd_ne (by omega), upd_ne (by omega)]
            · refine oDOk_w (oDOk_w hDo (by decide) ⟨fun _ => ?_, fun z => absurd z (by decide), fun z => absurd z (by decide)⟩) (by decide) ⟨fun _ => ?_, fun z => absurd z (by decide), fun z => absurd z (by decide)⟩
              · rw [ex]; exact inR_n (m := 29) (by omega) (by decide)
              · rw [e2]; exact inR_n (m := 29) (by omega) (by decide)
      · refine oRun_ok 1 rfl ?_
        refine g_callS rfl rfl rfl rfl mok_Oak_isSlack (by decide) (c_Oak_isSlack _ _) ?_
        rintro r62 M62 ⟨rfl, e⟩; rw [e]
        refine g_if_eq rfl (fun h65 => ?_) (fun h65 => ?_)
        · subst h58
          refine oRun_ok 2 rfl ?_
          refine g_ic_ne rfl (fun _ => ?_) (fun z => absurd z (by decide))
          refine oRun_ok 1 rfl ?_
          exact g_iret rfl rfl rfl (oQC.same hI ((if_neg h8).trans ((if_neg w0).trans ((if_pos rfl).trans (if_pos h65)))))
        · subst h58
          refine oRun_ok 8 rfl ?_
          refine g_iret rfl rfl rfl ?_
          rw [show M 5 (4 * 0 + j) 3 = _ from hR 3 (by decide)]
          refine oQC.deed hI (N' := upd (D K_M_now 0) (20 + 35 * j + 3) v) (d := j) ?_ hj (fun i hi => upd_ne (by omega)) (oFr.rf.up ⟨rfl, Or.inl rfl⟩) (oDOk_w hDo (by decide) ⟨fun z => absurd z (by decide), fun z => absurd z (by decide), fun _ => wiR h65⟩) (oRD_w (hI.rd hj) (by decide))
          refine (if_neg h8).trans ((if_neg w0).trans ((if_pos rfl).trans ((if_neg h65).trans ?_)))
          rw [ej]
    · have w0 : w = 0 := h30
      subst w0
      refine oRun_ok 1 rfl ?_
      refine g_callS rfl rfl rfl rfl mok_Oak_isYear (by decide) (c_Oak_isYear _ _) ?_
      rintro r34 M34 ⟨rfl, e⟩; rw [e]
      refine g_if_eq rfl (fun h37 => ?_) (fun h37 => ?_)
      · have b0 : oQC (s_set D (nI j) 0 v) M (some vBAD) M := oQC.same hI ((if_neg h8).trans ((if_pos rfl).trans (if_pos h37)))
        refine oRun_ok 2 rfl ?_
        refine g_ic_ne rfl (fun _ => ?_) (fun z => absurd z (by decide))
        refine oRun_ok 2 rfl ?_
        refine g_ic_ne rfl (fun _ => ?_) (fun z => absurd z (by decide))
        refine oRun_ok 1 rfl ?_
        exact g_iret rfl rfl rfl b0
      · refine oRun_ok 8 rfl ?_
        refine g_iret rfl rfl rfl ?_
        rw [show M 5 (4 * 0 + j) 2 = _ from hR 2 (by decide)]
        refine oQC.deed hI (N' := upd (D K_M_now 0) (20 + 35 * j + 2) v) (d := j) ?_ hj (fun i hi => upd_ne (by omega)) (oFr.rf.up ⟨rfl, Or.inl rfl⟩) (oDOk_w hDo (by decide) ⟨fun z => absurd z (by decide), fun _ => wiR h37, fun z => absurd z (by decide)⟩) (oRD_w (hI.rd hj) (by decide))
        refine (if_neg h8).trans ((if_pos rfl).trans ((if_neg h37).trans ?_))
        rw [ej]
  · refine oRun_ok 1 rfl ?_
    exact g_iret rfl rfl rfl (oQC.same hI (if_pos h8))
theorem q_set (C M D : oM) (d w v : Int32) (hI : oI C D) (hD : oPs D M) : oCt 4 k_Mod_set [.inr (K_MOD, 0), .inl d, .inl w, .inl v] M (oQM (s_set D d w v) M) := by
  have hN := hD.now
  refine oCt.of (ls := [some (.inr (K_MOD, 0)), some (.inl d), some (.inl w), some (.inl v), none, none, none]) mok_Mod_set rfl rfl ?_
  refine oRun_ok 2 rfl ?_
  refine g_callV rfl rfl rfl rfl rfl mok_Mod_isDeed (by decide) (c_Mod_isDeed _ _) ?_
  rintro r2 M2 ⟨rfl, e⟩; rw [e]
  rw [hN]
  refine g_if_eq rfl (fun h5 => ?_) (fun h5 => ?_)
  · refine oRun_ok 1 rfl ?_
    exact g_iret rfl rfl rfl (oQM.same hD (if_pos h5))
  · refine oRun_ok 3 rfl ?_
    refine g_callS rfl rfl rfl rfl mok_Mod_in (by decide) (c_Mod_in _ _ _ _) ?_
    rintro r11 M11 ⟨rfl, e⟩; rw [e]
    refine g_if_ne rfl (fun h14 => ?_) (fun h14 => ?_)
    · obtain ⟨j, hj, hj4, rfl, ej⟩ := oHasD hI h5
      obtain ⟨k, hk, ek⟩ := wiI (m := 3) (v := w) (by decide) h14
      refine oRun_ok 1 rfl ?_
      refine g_if_ne rfl (fun h21 => ?_) (fun h21 => ?_)
      · have w0 : ¬ w = 0 := h21
        refine oRun_ok 2 rfl ?_
        refine g_ic_ne rfl (fun h37 => ?_) (fun h37 => ?_)
        · have w1 : ¬ w = 1 := h37
          have w2 : w = 2 := by
            have n0 : ¬ k = 0 := fun z => w0 (by rw [ek, z]; rfl)
            have n1 : ¬ k = 1 := fun z => w1 (by rw [ek, z]; rfl)
            rw [ek, show k = 2 by omega]
            rfl
          refine oRun_ok 1 rfl ?_
          refine g_callS rfl rfl rfl rfl mok_Mod_isCell (by decide) (c_Mod_isCell _ _) ?_
          rintro r52 M52 ⟨rfl, e⟩; rw [e]
          refine oRun_ok 2 rfl ?_
          refine g_if_ne rfl (fun h59 => ?_) (fun h59 => ?_)
          · subst w2
            refine oRun_ok 8 rfl ?_
            refine g_ic_ne rfl (fun h76 => ?_) (fun h76 => ?_)
            · exact absurd rfl h76
            · refine oRun_ok 4 rfl ?_
              rw [show (20 : Int32) + 35 * nI j = nI (20 + 35 * j) by simp only [L20, L35, nI_times, nI_plus]]
              refine g_iald (20 + 35 * j) rfl rfl rfl (by omega) ?_
              refine oRun_ok 6 rfl ?_
              refine g_iald (20 + 35 * j + 1) rfl rfl (by simp only [L1, nI_plus]) (by omega) ?_
              refine oRun_ok 8 rfl ?_
              refine g_iast (20 + 35 * j) rfl rfl rfl (by omega) ?_
              refine oRun_ok 8 rfl ?_
              refine g_iast (20 + 35 * j + 1) rfl rfl (by simp only [L1, nI_plus]) (by omega) ?_
              refine oRun_ok 1 rfl ?_
              refine g_iret rfl rfl rfl ?_
              refine oQM.row (k := K_M_now) (f := n_begin (D K_M_now 0) j v) (by decide) hD ?_ ((oFr.rf.up ⟨rfl, rfl⟩).up ⟨rfl, rfl⟩) ?_
              · refine (if_neg h5).trans ((if_neg w0).trans ((if_neg w1).trans ((if_pos rfl).trans ((if_neg h59).trans ?_))))
                rw [ej, show M 32 0 = _ from hN]
                rfl
              · rw [oUp_upd, oUp_upd, ← hN]
                rfl
          · refine oRun_ok 1 rfl ?_
            exact g_iret rfl rfl rfl (oQM.same hD ((if_neg h5).trans ((if_neg w0).trans ((if_neg w1).trans ((if_pos w2).trans (if_pos h59))))))
        · subst h37
          refine oRun_ok 3 rfl ?_
          refine g_callS rfl rfl rfl rfl mok_Mod_in (by decide) (c_Mod_in _ _ _ _) ?_
          rintro r45 M45 ⟨rfl, e⟩; rw [e]
          refine oRun_ok 3 rfl ?_
          refine g_if_ne rfl (fun h59 => ?_) (fun h59 => ?_)
          · have w1 : (1 : Int32) = 1 := rfl
            refine oRun_ok 8 rfl ?_
            refine g_ic_ne rfl (fun h76 => ?_) (fun h76 => ?_)
            · refine oRun_ok 7 rfl ?_
              refine g_iald (20 + 35 * j + 3) rfl rfl (by simp only [L20, L35, L2, L1, nI_times, nI_plus]) (by omega) ?_
              refine oRun_ok 9 rfl ?_
              refine g_iast (20 + 35 * j + 3) rfl rfl (by simp only [L20, L35, L2, L1, nI_times, nI_plus]) (by omega) ?_
              refine oRun_ok 1 rfl ?_
              refine g_iret rfl rfl rfl ?_
              refine oQM.row (k := K_M_now) (f := upd (D K_M_now 0) (20 + 35 * j + 3) v) (by decide) hD ?_ (oFr.rf.up ⟨rfl, rfl⟩) (by rw [oUp_upd, ← hN])
              refine (if_neg h5).trans ((if_neg w0).trans ((if_pos rfl).trans ((if_neg h59).trans ?_)))
              rw [ej, show M 32 0 = _ from hN]
            · exact absurd h76 (by decide)
          · refine oRun_ok 1 rfl ?_
            exact g_iret rfl rfl rfl (oQM.same hD ((if_neg h5).trans ((if_neg w0).trans ((if_pos rfl).trans (if_pos h59)))))
      · have w0 : w = 0 := h21
        subst w0
        refine oRun_ok 3 rfl ?_
        refine g_callS rfl rfl rfl rfl mok_Mod_in (by decide) (c_Mod_in _ _ _ _) ?_
        rintro r29 M29 ⟨rfl, e⟩; rw [e]
        refine oRun_ok 3 rfl ?_
        refine g_if_ne rfl (fun h59 => ?_) (fun h59 => ?_)
        · refine oRun_ok 8 rfl ?_
          refine g_ic_ne rfl (fun h76 => ?_) (fun h76 => ?_)
          · refine oRun_ok 7 rfl ?_
            refine g_iald (20 + 35 * j + 2) rfl rfl (by simp only [L20, L35, L2, nI_times, nI_plus]; exact Int32.add_zero _) (by omega) ?_
            refine oRun_ok 9 rfl ?_
            refine g_iast (20 + 35 * j + 2) rfl rfl (by simp only [L20, L35, L2, nI_times, nI_plus]; exact Int32.add_zero _) (by omega) ?_
            refine oRun_ok 1 rfl ?_
            refine g_iret rfl rfl rfl ?_
            refine oQM.row (k := K_M_now) (f := upd (D K_M_now 0) (20 + 35 * j + 2) v) (by decide) hD ?_ (oFr.rf.up ⟨rfl, rfl⟩) (by rw [oUp_upd, ← hN])
            refine (if_neg h5).trans ((if_pos rfl).trans ((if_neg h59).trans ?_))
            rw [ej, show M 32 0 = _ from hN]
          · exact absurd h76 (by decide)
        · refine oRun_ok 1 rfl ?_
          exact g_iret rfl rfl rfl (oQM.same hD ((if_neg h5).trans ((if_pos rfl).trans (if_pos h59))))
    · refine oRun_ok 1 rfl ?_
      refine g_iret rfl rfl rfl (oQM.same hD ((if_neg h5).trans ?_))
      have n0 : ¬ w = 0 := fun z => by rw [z] at h14; exact absurd h14 (by decide)
      have n1 : ¬ w = 1 := fun z => by rw [z] at h14; exact absurd h14 (by decide)
      have n2 : ¬ w = 2 := fun z => by rw [z] at h14; exact absurd h14 (by decide)
      exact (if_neg n0).trans ((if_neg n1).trans (if_neg n2))

