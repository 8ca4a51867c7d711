/-! ===== lay ===== -/
theorem thing4 {v : Int32} (h : ¬ f_Oak_isWithin v 0 3 = 0) : v = 0 ∨ v = 1 ∨ v = 2 ∨ v = 3 := by
  obtain ⟨q, hq, rfl⟩ := wiI (m := 4) (v := v) (by decide) h
  have hq : q = 0 ∨ q = 1 ∨ q = 2 ∨ q = 3 := by omega
  rcases hq with rfl | rfl | rfl | rfl
  · exact Or.inl rfl
  · exact Or.inr (Or.inl rfl)
  · exact Or.inr (Or.inr (Or.inl rfl))
  · exact Or.inr (Or.inr (Or.inr rfl))
theorem p_lay (M D : oM) (s t k : Int32) (hI : oI M D) : oCt 3 k_Oak_lay [.inr (K_OAK, 0), .inl s, .inl t, .inl k] M (oQC (s_lay D s t k) M) := by
  obtain ⟨hDD, d4⟩ := oND hI.ok
  have tail : ∀ i, i < 5 → s = nI i → (nI i).toNatClampNeg = i → ¬ f_Oak_isSlot s = 0 → ¬ f_Oak_isWithin t 0 3 = 0 → oG k_Oak_lay 3 27 [some (.inr (K_OAK, 0)), some (.inl s), some (.inl t), some (.inl k), some (.inr (K_SLOT, i)), none] [] M (oQC (s_lay D s t k) M) := by
    intro i hi es ei h4 h13
    subst es
    obtain ⟨g1, g2, g3, g4, g5⟩ := hI.slot i hi
    rcases thing4 h13 with rfl | rfl | rfl | rfl
    ·
      refine oRun_ok 2 rfl ?_
      refine g_ic_ne rfl (fun h29 => ?_) (fun h29 => ?_)
      · refine oRun_ok 2 rfl ?_
        refine g_ic_ne rfl (fun h80 => ?_) (fun h80 => ?_)
        · refine oRun_ok 2 rfl ?_
          refine g_ic_ne rfl (fun h126 => ?_) (fun h126 => ?_)
          · refine oRun_ok 7 rfl ?_
            refine g_iret rfl rfl rfl ?_
            rw [show M 29 i 0 = _ from g1]
            refine oQC.of (D' := D_lay D i 0 k 0) ((if_neg h4).trans ((if_neg h13).trans ((if_neg (by decide)).trans ((if_neg (by decide)).trans (by rw [ei]))))) (hI.slot' hi (oFr.rf.up (Or.inl ⟨rfl, rfl⟩)) (fun k hk => D_lay_dd hk) D_lay_x ?_) (oFr.rf.cl (by decide))
            unfold I_slot1
            rw [D_lay_w, D_lay_a, D_lay_b, upd_eq, upd_eq, upd_eq]
            exact ⟨oUp_self, ⟨by decide, by decide⟩, fun z => absurd z (by decide), fun z => absurd z (by decide), fun z => absurd z (by decide)⟩
          · exact absurd h126 (by decide)
        · exact absurd h80 (by decide)
      · exact absurd h29 (by decide)
    ·
      refine oRun_ok 2 rfl ?_
      refine g_ic_ne rfl (fun h29 => ?_) (fun h29 => ?_)
      · exact absurd rfl h29
      · refine oRun_ok 1 rfl ?_
        refine g_if_lt rfl (fun h33 => ?_) (fun h33 => ?_)
        · refine oRun_ok 1 rfl ?_
          exact g_iret rfl rfl rfl (oQC.same hI ((if_neg h4).trans ((if_neg h13).trans ((if_pos rfl).trans (if_pos h33)))))
        · refine oRun_ok 8 rfl ?_
          refine g_callV rfl rfl rfl rfl rfl mok_Land_hasCall (by decide) (c_Land_hasCall _ 0 (cD (D K_M_now 0)) _ _ (hI.dd.trans hDD) d4) ?_
          rintro r48 M48 ⟨rfl, e⟩; rw [e]
          rw [oHC_eq hI]
          refine g_if_ne rfl (fun h51 => ?_) (fun h51 => ?_)
          · obtain ⟨j, c, hj, hj4, hc, hc10, e1, e2, ej, ec⟩ := oHC_ok hI h51
            obtain ⟨a1, a2, a3⟩ := (hI.rd hj).2 c hc
            have hcl := (hI.dok hj).2.2.2.2.2 c hc
            refine oRun_ok 7 rfl ?_
            refine g_aald j rfl rfl e1 hj4 rfl ?_
            refine oRun_ok 3 rfl ?_
            rw [e2]
            refine g_callV rfl rfl rfl rfl rfl mok_Slot_takeCall (by decide) (c_Slot_takeCall _ i (4 * 0 + j) c hc10) ?_
            rintro r75 M75 ⟨rfl, e⟩; rw [e]
            refine oRun_ok 2 rfl ?_
            refine g_ic_ne rfl (fun h80 => ?_) (fun h80 => ?_)
            · refine oRun_ok 2 rfl ?_
              refine g_ic_ne rfl (fun h126 => ?_) (fun h126 => ?_)
              · refine oRun_ok 7 rfl ?_
                refine g_iret rfl rfl rfl ?_
                rw [oUp_j (by decide), oUp_j (by decide), oUp_j (by decide), show M 29 i 0 = _ from g1]
                refine oQC.of (D' := D_lay D i 1 (D K_M_now 0 (20 + 35 * j + 5 + 3 * c)) (f_Oak_worthOf (D K_M_now 0 (20 + 35 * j + 5 + 3 * c)) (D K_M_now 0 (20 + 35 * j + 5 + 3 * c + 1)) (D K_M_now 0 (20 + 35 * j + 5 + 3 * c + 2)))) ((if_neg h4).trans ((if_neg h13).trans ((if_pos rfl).trans ((if_neg h33).trans ((if_neg h51).trans (by rw [ei, e1, e2, ej, ec])))))) (hI.slot' hi ((((oFr.rf.up (Or.inl ⟨rfl, rfl⟩)).up (Or.inl ⟨rfl, rfl⟩)).up (Or.inl ⟨rfl, rfl⟩)).up (Or.inl ⟨rfl, rfl⟩)) (fun k hk => D_lay_dd hk) D_lay_x ?_) ((((oFr.rf.cl (by decide)).cl (by decide)).cl (by decide)).cl (by decide))
                unfold I_slot1
                rw [D_lay_w, D_lay_a, D_lay_b, upd_eq, upd_eq, upd_eq]
                refine ⟨oUp_self, ⟨by decide, by decide⟩, fun _ => ⟨?_, hcl.1, ?_⟩, fun z => absurd z (by decide), fun z => absurd z (by decide)⟩
                · rw [oUp_j (by decide), oUp_j (by decide), oUp_j (by decide), oUp_self]
                  exact a1
                · rw [oUp_j (j' := 1) (by decide), oUp_j (j' := 1) (by decide), oUp_j (j' := 1) (by decide), oUp_self, oUp_j (j' := 2) (by decide), oUp_j (j' := 2) (by decide), oUp_self, oUp_j (j' := 3) (by decide), oUp_self, a1, a2, a3]
              · exact absurd h126 (by decide)
            · exact absurd h80 (by decide)
          · refine oRun_ok 1 rfl ?_
            exact g_iret rfl rfl rfl (oQC.same hI ((if_neg h4).trans ((if_neg h13).trans ((if_pos rfl).trans ((if_neg h33).trans (if_pos h51))))))
    ·
      refine oRun_ok 2 rfl ?_
      refine g_ic_ne rfl (fun h29 => ?_) (fun h29 => ?_)
      · refine oRun_ok 2 rfl ?_
        refine g_ic_ne rfl (fun h80 => ?_) (fun h80 => ?_)
        · exact absurd rfl h80
        · refine oRun_ok 1 rfl ?_
          refine g_callS rfl rfl rfl rfl mok_Oak_isSheet (by decide) (c_Oak_isSheet _ _) ?_
          rintro r84 M84 ⟨rfl, e⟩; rw [e]
          refine g_if_ne rfl (fun h87 => ?_) (fun h87 => ?_)
          · obtain ⟨j, hj, rfl, ej⟩ := sheet_in h87
            obtain ⟨b1, b2, b3, b4, b5⟩ := hI.sheet j hj
            refine oRun_ok 3 rfl ?_
            refine g_aald j rfl rfl rfl (by omega) (show j = 0 * 0 + j by omega) ?_
            refine oRun_ok 2 rfl ?_
            rw [show M 26 j 0 = _ from b1]
            refine g_ic_ne rfl (fun h103 => ?_) (fun h103 => ?_)
            · refine oRun_ok 5 rfl ?_
              refine g_aald j rfl rfl rfl (by omega) (show j = 0 * 0 + j by omega) ?_
              refine g_callV rfl rfl rfl rfl rfl mok_Row_takeFrom (by decide) (c_Row_takeFrom _ (i + 4) j (by omega)) ?_
              rintro r M' ⟨rfl, f1, f2, f3, f4⟩
              refine oRun_ok 2 rfl ?_
              refine g_ic_ne rfl (fun h126 => ?_) (fun h126 => ?_)
              · refine oRun_ok 7 rfl ?_
                refine g_iret rfl rfl rfl ?_
                have eS : M' K_SLOT = M K_SLOT := by
                  funext x
                  exact f4 K_SLOT x (fun q => absurd q.2 (by decide))
                rw [show M' 29 i 0 = M 29 i 0 by rw [show M' 29 = _ from eS], show M 29 i 0 = _ from g1]
                have hF : oFr (fun k i' => (k = K_SLOT ∧ i' = i) ∨ (i' = i + 4 ∧ (k = K_ROW ∨ k = K_RPL))) M (oUp M' K_SLOT i 0 2) := oFr.up (f4.mono (fun k i q => Or.inr q)) (Or.inl ⟨rfl, rfl⟩)
                refine oQC.of (D' := oSR (D_lay D i 2 (D K_M_sizes 0 j) 0) K_M_heldCells (f_hc (D K_M_heldCells 0) (D K_M_cells 0) i j 24)) ((if_neg h4).trans ((if_neg h13).trans ((if_neg (by decide)).trans ((if_pos rfl).trans ((if_neg h87).trans ((if_neg (by rw [ej]; exact h103)).trans (by rw [ei, ej]))))))) (hI.slot' hi hF (fun k hk => ?_) (fun x hx => ?_) ?_) (oSlot_cls hF)
                · rw [oSR_ne (fun z => hk (Or.inr (Or.inr (Or.inr z)))), D_lay_dd hk]
                · obtain ⟨w1, w2, w3, w4⟩ := D_lay_x (D := D) (s := i) (t := 2) (a := D K_M_sizes 0 j) (b := 0) x hx
                  rw [oSR_ne (k' := K_M_holdsWhat) (by decide), oSR_ne (k' := K_M_holdsA) (by decide), oSR_ne (k' := K_M_holdsB) (by decide), oSR_at]
                  refine ⟨w1, w2, w3, fun k hk => ?_⟩
                  unfold f_hc
                  rw [if_neg (by omega)]
                · unfold I_slot1
                  rw [oSR_ne (k' := K_M_holdsWhat) (by decide), oSR_ne (k' := K_M_holdsA) (by decide), oSR_ne (k' := K_M_holdsB) (by decide), oSR_at, D_lay_w, D_lay_a, D_lay_b, upd_eq, upd_eq, upd_eq]
                  refine ⟨oUp_self, ⟨by decide, by decide⟩, fun z => absurd z (by decide), fun _ => ⟨?_, b4, fun k hk => ?_⟩, fun z => absurd z (by decide)⟩
                  · rw [oUp_k (by decide), f2]
                    exact b2
                  · rw [oUp_k (by decide), f3 k hk, b5 k hk]
                    unfold f_hc
                    rw [if_pos (by omega)]
                    congr 1
                    omega
              · exact absurd h126 (by decide)
            · refine oRun_ok 1 rfl ?_
              exact g_iret rfl rfl rfl (oQC.same hI ((if_neg h4).trans ((if_neg h13).trans ((if_neg (by decide)).trans ((if_pos rfl).trans ((if_neg h87).trans (if_pos (by rw [ej]; exact h103))))))))
          · refine oRun_ok 1 rfl ?_
            exact g_iret rfl rfl rfl (oQC.same hI ((if_neg h4).trans ((if_neg h13).trans ((if_neg (by decide)).trans ((if_pos rfl).trans (if_pos h87))))))
      · exact absurd h29 (by decide)
    ·
      refine oRun_ok 2 rfl ?_
      refine g_ic_ne rfl (fun h29 => ?_) (fun h29 => ?_)
      · refine oRun_ok 2 rfl ?_
        refine g_ic_ne rfl (fun h80 => ?_) (fun h80 => ?_)
        · refine oRun_ok 2 rfl ?_
          refine g_ic_ne rfl (fun h126 => ?_) (fun h126 => ?_)
          · exact absurd rfl h126
          · refine oRun_ok 10 rfl ?_
            refine g_iret rfl rfl rfl ?_
            rw [oUp_j (by decide), show M 29 i 0 = _ from g1]
            refine oQC.of (D' := D_lay D i 3 k 0) ((if_neg h4).trans ((if_neg h13).trans ((if_neg (by decide)).trans ((if_neg (by decide)).trans (by rw [ei]))))) (hI.slot' hi ((oFr.rf.up (Or.inl ⟨rfl, rfl⟩)).up (Or.inl ⟨rfl, rfl⟩)) (fun k hk => D_lay_dd hk) D_lay_x ?_) ((oFr.rf.cl (by decide)).cl (by decide))
            unfold I_slot1
            rw [D_lay_w, D_lay_a, D_lay_b, upd_eq, upd_eq, upd_eq]
            refine ⟨oUp_self, ⟨by decide, by decide⟩, fun z => absurd z (by decide), fun z => absurd z (by decide), fun _ => ?_⟩
            rw [oUp_j (by decide)]
            exact oUp_self
        · exact absurd h80 (by decide)
      · exact absurd h29 (by decide)
  refine oCt.of (ls := [some (.inr (K_OAK, 0)), some (.inl s), some (.inl t), some (.inl k), none, none]) mok_Oak_lay rfl rfl ?_
  refine oRun_ok 1 rfl ?_
  refine g_callS rfl rfl rfl rfl mok_Oak_isSlot (by decide) (c_Oak_isSlot _ _) ?_
  rintro r1 M1 ⟨rfl, e⟩; rw [e]
  refine g_if_eq rfl (fun h4 => ?_) (fun h4 => ?_)
  · refine oRun_ok 1 rfl ?_
    exact g_iret rfl rfl rfl (oQC.same hI (if_pos h4))
  · refine oRun_ok 3 rfl ?_
    refine g_callS rfl rfl rfl rfl mok_Oak_isWithin (by decide) (c_Oak_isWithin _ _ _ _) ?_
    rintro r10 M10 ⟨rfl, e⟩; rw [e]
    refine g_if_ne rfl (fun h13 => ?_) (fun h13 => ?_)
    · obtain ⟨i, hi, es, ei⟩ := slot_in h4
      refine oRun_ok 3 rfl ?_
      refine g_aald i rfl rfl es (by omega) (show i = 0 * 0 + i by omega) ?_
      refine oRun_ok 1 rfl ?_
      exact tail i hi es ei h4 h13
    · refine oRun_ok 1 rfl ?_
      exact g_iret rfl rfl rfl (oQC.same hI ((if_neg h4).trans (if_pos h13)))
theorem q_lay (C M D : oM) (s t k : Int32) (hI : oI C D) (hD : oPs D M) : oCt 3 k_Mod_lay [.inr (K_MOD, 0), .inl s, .inl t, .inl k] M (oQM (s_lay D s t k) M) := by
  have hN := hD.now
  have e1 : M 54 0 = D K_M_holdsWhat 0 := hD.1 _ (by decide)
  have e2 : M 51 0 = D K_M_sorts 0 := hD.1 _ (by decide)
  have e3 : M 52 0 = D K_M_sizes 0 := hD.1 _ (by decide)
  have tail : ∀ i, i < 5 → s = nI i → (nI i).toNatClampNeg = i → ¬ f_Oak_isSlot s = 0 → ¬ f_Oak_isWithin t 0 3 = 0 → oG k_Mod_lay 3 16 [some (.inr (K_MOD, 0)), some (.inl s), some (.inl t), some (.inl k), none, none] [] M (oQM (s_lay D s t k) M) := by
    intro i hi es ei h4 h13
    subst es
    rcases thing4 h13 with rfl | rfl | rfl | rfl
    ·
      refine oRun_ok 2 rfl ?_
      refine g_ic_ne rfl (fun h18 => ?_) (fun h18 => ?_)
      · refine oRun_ok 2 rfl ?_
        refine g_ic_ne rfl (fun h42 => ?_) (fun h42 => ?_)
        · refine oRun_ok 2 rfl ?_
          refine g_ic_ne rfl (fun h57 => ?_) (fun h57 => ?_)
          · refine oRun_ok 3 rfl ?_
            refine g_iald i rfl rfl rfl (by omega) ?_
            rw [e1]
            refine oRun_ok 5 rfl ?_
            refine g_iast i rfl rfl rfl (by omega) ?_
            refine oRun_ok 5 rfl ?_
            refine g_ic_ne rfl (fun h95 => ?_) (fun h95 => ?_)
            · refine oRun_ok 2 rfl ?_
              refine g_ic_ne rfl (fun h116 => ?_) (fun h116 => ?_)
              · refine oRun_ok 1 rfl ?_
                refine g_iast i rfl rfl rfl (by omega) ?_
                refine oRun_ok 5 rfl ?_
                refine g_ic_ne rfl (fun h137 => ?_) (fun h137 => ?_)
                · refine oRun_ok 1 rfl ?_
                  refine g_iast i rfl rfl rfl (by omega) ?_
                  refine oRun_ok 4 rfl ?_
                  refine g_ic_ge rfl (fun h164 => ?_) (fun h164 => ?_)
                  · exact absurd h164 (by decide)
                  · refine oRun_ok 2 rfl ?_
                    refine g_ic_ne rfl (fun h169 => ?_) (fun h169 => ?_)
                    · refine oRun_ok 1 rfl ?_
                      exact g_iret rfl rfl rfl (oQM.of (D' := D_lay D i 0 k 0) ((if_neg h4).trans ((if_neg h13).trans ((if_neg (by decide)).trans ((if_neg (by decide)).trans (by rw [ei]))))) (hD.up.up.up) (((oFr.rf.mdl (by decide)).mdl (by decide)).mdl (by decide)))
                    · exact absurd h169 (by decide)
                · exact absurd h137 (by decide)
              · exact absurd h116 (by decide)
            · exact absurd h95 (by decide)
          · exact absurd h57 (by decide)
        · exact absurd h42 (by decide)
      · exact absurd h18 (by decide)
    ·
      refine oRun_ok 2 rfl ?_
      refine g_ic_ne rfl (fun h18 => ?_) (fun h18 => ?_)
      · exact absurd rfl h18
      · refine oRun_ok 1 rfl ?_
        refine g_if_lt rfl (fun h22 => ?_) (fun h22 => ?_)
        · refine oRun_ok 1 rfl ?_
          exact g_iret rfl rfl rfl (oQM.same hD ((if_neg h4).trans ((if_neg h13).trans ((if_pos rfl).trans (if_pos h22)))))
        · refine oRun_ok 7 rfl ?_
          refine g_callV rfl rfl rfl rfl rfl mok_Mod_isCall (by decide) (c_Mod_isCall _ _ _ (by rw [hN]; exact hI.ok)) ?_
          rintro r34 M34 ⟨rfl, e⟩; rw [e]
          rw [hN]
          show oG k_Mod_lay 3 37 _ [.inl (sHC (D K_M_now 0) (k / 100) (oRem k 100))] _ _
          refine g_if_eq rfl (fun h37 => ?_) (fun h37 => ?_)
          · refine oRun_ok 1 rfl ?_
            exact g_iret rfl rfl rfl (oQM.same hD ((if_neg h4).trans ((if_neg h13).trans ((if_pos rfl).trans ((if_neg h22).trans (if_pos h37))))))
          · obtain ⟨j, c, hj, hj4, hc, hc10, g1, g2, ej, ec⟩ := oHC_ok hI h37
            refine oRun_ok 2 rfl ?_
            refine g_ic_ne rfl (fun h42 => ?_) (fun h42 => ?_)
            · refine oRun_ok 2 rfl ?_
              refine g_ic_ne rfl (fun h57 => ?_) (fun h57 => ?_)
              · refine oRun_ok 3 rfl ?_
                refine g_iald i rfl rfl rfl (by omega) ?_
                rw [e1]
                refine oRun_ok 5 rfl ?_
                refine g_iast i rfl rfl rfl (by omega) ?_
                refine oRun_ok 5 rfl ?_
                refine g_ic_ne rfl (fun h95 => ?_) (fun h95 => ?_)
                · exact absurd rfl h95
                · refine oRun_ok 8 rfl ?_
                  rw [g1, g2]
                  refine g_callV rfl rfl rfl rfl rfl mok_Mod_callOf (by decide) (c_Mod_callOf _ j c 0 hj4 hc10 (by decide)) ?_
                  rintro r108 M108 ⟨rfl, e⟩; rw [e]
                  rw [oUp_k (by decide), hN]
                  refine oRun_ok 1 rfl ?_
                  refine g_iast i rfl rfl rfl (by omega) ?_
                  refine oRun_ok 5 rfl ?_
                  refine g_ic_ne rfl (fun h137 => ?_) (fun h137 => ?_)
                  · exact absurd rfl h137
                  · refine oRun_ok 7 rfl ?_
                    rw [g1, g2]
                    refine g_callV rfl rfl rfl rfl rfl mok_Mod_worthOf (by decide) (c_Mod_worthOf _ j c hj4 hc10) ?_
                    rintro r149 M149 ⟨rfl, e⟩; rw [e]
                    rw [oUp_k (by decide), oUp_k (by decide), hN]
                    refine oRun_ok 1 rfl ?_
                    refine g_iast i rfl rfl rfl (by omega) ?_
                    refine oRun_ok 4 rfl ?_
                    refine g_ic_ge rfl (fun h164 => ?_) (fun h164 => ?_)
                    · exact absurd h164 (by decide)
                    · refine oRun_ok 2 rfl ?_
                      refine g_ic_ne rfl (fun h169 => ?_) (fun h169 => ?_)
                      · refine oRun_ok 1 rfl ?_
                        exact g_iret rfl rfl rfl (oQM.of (D' := D_lay D i 1 (D K_M_now 0 (20 + 35 * j + 5 + 3 * c)) (f_Oak_worthOf (D K_M_now 0 (20 + 35 * j + 5 + 3 * c)) (D K_M_now 0 (20 + 35 * j + 5 + 3 * c + 1)) (D K_M_now 0 (20 + 35 * j + 5 + 3 * c + 2)))) ((if_neg h4).trans ((if_neg h13).trans ((if_pos rfl).trans ((if_neg h22).trans ((if_neg h37).trans (by rw [ei, g1, g2, ej, ec])))))) (hD.up.up.up) (((oFr.rf.mdl (by decide)).mdl (by decide)).mdl (by decide)))
                      · exact absurd h169 (by decide)
              · exact absurd h57 (by decide)
            · exact absurd h42 (by decide)
    ·
      refine oRun_ok 2 rfl ?_
      refine g_ic_ne rfl (fun h18 => ?_) (fun h18 => ?_)
      · refine oRun_ok 2 rfl ?_
        refine g_ic_ne rfl (fun h42 => ?_) (fun h42 => ?_)
        · exact absurd rfl h42
        · refine oRun_ok 1 rfl ?_
          refine g_callS rfl rfl rfl rfl mok_Mod_isSheet (by decide) (c_Mod_isSheet _ _) ?_
          rintro r46 M46 ⟨rfl, e⟩; rw [e]
          refine g_if_ne rfl (fun h49 => ?_) (fun h49 => ?_)
          · obtain ⟨j, hj, rfl, ej⟩ := sheet_in h49
            obtain ⟨b1, b2, b3, b4, b5⟩ := hI.sheet j hj
            refine oRun_ok 2 rfl ?_
            refine g_ic_ne rfl (fun h57 => ?_) (fun h57 => ?_)
            · exact absurd rfl h57
            · refine oRun_ok 3 rfl ?_
              refine g_iald j rfl rfl rfl (by omega) ?_
              rw [e2]
              refine g_if_ge rfl (fun h66 => ?_) (fun h66 => ?_)
              · have h66 : ¬ D K_M_sorts 0 j = -1 := fun z => by rw [z] at h66; exact absurd h66 (by decide)
                refine oRun_ok 3 rfl ?_
                refine g_iald i rfl rfl rfl (by omega) ?_
                rw [e1]
                refine oRun_ok 5 rfl ?_
                refine g_iast i rfl rfl rfl (by omega) ?_
                refine oRun_ok 5 rfl ?_
                refine g_ic_ne rfl (fun h95 => ?_) (fun h95 => ?_)
                · refine oRun_ok 2 rfl ?_
                  refine g_ic_ne rfl (fun h116 => ?_) (fun h116 => ?_)
                  · exact absurd rfl h116
                  · refine oRun_ok 3 rfl ?_
                    refine g_iald j rfl rfl rfl (by omega) ?_
                    rw [oUp_k (by decide), e3]
                    refine oRun_ok 1 rfl ?_
                    refine g_iast i rfl rfl rfl (by omega) ?_
                    refine oRun_ok 5 rfl ?_
                    refine g_ic_ne rfl (fun h137 => ?_) (fun h137 => ?_)
                    · refine oRun_ok 1 rfl ?_
                      refine g_iast i rfl rfl rfl (by omega) ?_
                      refine oRun_ok 2 rfl ?_
                      have hs : s_lay D (nI i) 2 (nI j) = (D K_M_holdsWhat 0 i, oSR (D_lay D i 2 (D K_M_sizes 0 j) 0) K_M_heldCells (f_hc (D K_M_heldCells 0) (D K_M_cells 0) i j 24)) := (if_neg h4).trans ((if_neg h13).trans ((if_neg (by decide)).trans ((if_pos rfl).trans ((if_neg h49).trans ((if_neg (by rw [ej]; exact h66)).trans (by rw [ei, ej]))))))
                      have loop : ∀ (q n : Nat) (M1 : oM), n + q = 24 → M1 K_M_heldCells 0 = f_hc (D K_M_heldCells 0) (D K_M_cells 0) i j n → oFr (oKi K_M_heldCells 0) (D_lay M i 2 (D K_M_sizes 0 j) 0) M1 → oG k_Mod_lay 3 160 [some (.inr (K_MOD, 0)), some (.inl (nI i)), some (.inl 2), some (.inl (nI j)), some (.inl (D K_M_holdsWhat 0 i)), some (.inl (nI n))] [] M1 (oQM (s_lay D (nI i) 2 (nI j)) M) := by
                        intro q
                        induction q with
                        | zero =>
                          intro n M1 hn h1 hF
                          obtain rfl : n = 24 := by omega
                          refine oRun_ok 2 rfl ?_
                          refine g_ic_ge rfl (fun _ => ?_) (fun z => absurd (by decide) z)
                          refine oRun_ok 1 rfl ?_
                          refine g_iret rfl rfl rfl ?_
                          have eM : M1 K_MOD 0 = M K_MOD 0 := hF K_MOD 0 (fun q => absurd q.1 (by decide))
                          refine oQM.of hs (oPs_row (k := K_M_heldCells) (by decide) (hD.up.up.up) (hF.mono (fun k i q => Or.inr q.1)) (by rw [eM]; rfl) (by rw [eM]; rfl) (by rw [eM]; rfl) h1) ?_
                          exact (((oFr.rf.mdl (by decide)).mdl (by decide)).mdl (by decide)).tr (hF.mono (fun k i q => by rw [q.1]; exact ⟨by decide, by decide⟩))
                        | succ q ih =>
                          intro n M1 hn h1 hF
                          refine oRun_ok 2 rfl ?_
                          refine g_ic_ge rfl (fun z => ?_) (fun _ => ?_)
                          · have z : nI 24 ≤ nI n := z
                            rw [nIle (by omega) (by omega)] at z
                            omega
                          refine oRun_ok 2 rfl ?_
                          refine g_ic_ne rfl (fun z => absurd rfl z) (fun _ => ?_)
                          refine oRun_ok 14 rfl ?_
                          refine g_iald (24 * j + n) rfl rfl (by simp only [L24, nI_times, nI_plus]) (by omega) ?_
                          rw [show M1 53 0 = D K_M_cells 0 from (hF K_M_cells 0 (fun q => absurd q.1 (by decide))).trans (hD.1 K_M_cells (by decide))]
                          refine g_iast (24 * i + n) rfl rfl (by simp only [L24, nI_times, nI_plus]) (by omega) ?_
                          refine oRun_ok 2 rfl ?_
                          rw [nI_1]
                          refine ih (n + 1) _ (by omega) ?_ (hF.up ⟨rfl, rfl⟩)
                          rw [oUp_upd, h1]
                          funext x
                          unfold f_hc
                          by_cases z : x = 24 * i + n
                          · rw [z, upd_eq, if_pos (by omega)]
                            congr 1
                            omega
                          · rw [upd_ne z]
                            by_cases y : 24 * i ≤ x ∧ x < 24 * i + n
                            · rw [if_pos y, if_pos (by omega)]
                            · rw [if_neg y, if_neg (by omega)]
                      refine loop 24 0 _ rfl ?_ oFr.rf
                      show M K_M_heldCells 0 = _
                      rw [hD.1 K_M_heldCells (by decide)]
                      funext x
                      unfold f_hc
                      rw [if_neg (by omega)]
                    · exact absurd h137 (by decide)
                · exact absurd h95 (by decide)
              · have h66 : D K_M_sorts 0 j = -1 := by
                  rcases sort3 b3 with z | z | z
                  · exact z
                  · rw [z] at h66; exact absurd (by decide) h66
                  · rw [z] at h66; exact absurd (by decide) h66
                refine oRun_ok 1 rfl ?_
                exact g_iret rfl rfl rfl (oQM.same hD ((if_neg h4).trans ((if_neg h13).trans ((if_neg (by decide)).trans ((if_pos rfl).trans ((if_neg h49).trans (if_pos (by rw [ej]; exact h66))))))))
          · refine oRun_ok 1 rfl ?_
            exact g_iret rfl rfl rfl (oQM.same hD ((if_neg h4).trans ((if_neg h13).trans ((if_neg (by decide)).trans ((if_pos rfl).trans (if_pos h49))))))
      · exact absurd h18 (by decide)
    ·
      refine oRun_ok 2 rfl ?_
      refine g_ic_ne rfl (fun h18 => ?_) (fun h18 => ?_)
      · refine oRun_ok 2 rfl ?_
        refine g_ic_ne rfl (fun h42 => ?_) (fun h42 => ?_)
        · refine oRun_ok 2 rfl ?_
          refine g_ic_ne rfl (fun h57 => ?_) (fun h57 => ?_)
          · refine oRun_ok 3 rfl ?_
            refine g_iald i rfl rfl rfl (by omega) ?_
            rw [e1]
            refine oRun_ok 5 rfl ?_
            refine g_iast i rfl rfl rfl (by omega) ?_
            refine oRun_ok 5 rfl ?_
            refine g_ic_ne rfl (fun h95 => ?_) (fun h95 => ?_)
            · refine oRun_ok 2 rfl ?_
              refine g_ic_ne rfl (fun h116 => ?_) (fun h116 => ?_)
              · refine oRun_ok 1 rfl ?_
                refine g_iast i rfl rfl rfl (by omega) ?_
                refine oRun_ok 5 rfl ?_
                refine g_ic_ne rfl (fun h137 => ?_) (fun h137 => ?_)
                · refine oRun_ok 1 rfl ?_
                  refine g_iast i rfl rfl rfl (by omega) ?_
                  refine oRun_ok 4 rfl ?_
                  refine g_ic_ge rfl (fun h164 => ?_) (fun h164 => ?_)
                  · exact absurd h164 (by decide)
                  · refine oRun_ok 2 rfl ?_
                    refine g_ic_ne rfl (fun h169 => ?_) (fun h169 => ?_)
                    · refine oRun_ok 1 rfl ?_
                      exact g_iret rfl rfl rfl (oQM.of (D' := D_lay D i 3 k 0) ((if_neg h4).trans ((if_neg h13).trans ((if_neg (by decide)).trans ((if_neg (by decide)).trans (by rw [ei]))))) (hD.up.up.up) (((oFr.rf.mdl (by decide)).mdl (by decide)).mdl (by decide)))
                    · exact absurd h169 (by decide)
                · exact absurd h137 (by decide)
              · exact absurd h116 (by decide)
            · exact absurd h95 (by decide)
          · exact absurd h57 (by decide)
        · exact absurd h42 (by decide)
      · exact absurd h18 (by decide)
  refine oCt.of (ls := [some (.inr (K_MOD, 0)), some (.inl s), some (.inl t), some (.inl k), none, none]) mok_Mod_lay rfl rfl ?_
  refine oRun_ok 1 rfl ?_
  refine g_callS rfl rfl rfl rfl mok_Mod_isSlot (by decide) (c_Mod_isSlot _ _) ?_
  rintro r1 M1 ⟨rfl, e⟩; rw [e]
  refine g_if_eq rfl (fun h4 => ?_) (fun h4 => ?_)
  · refine oRun_ok 1 rfl ?_
    exact g_iret rfl rfl rfl (oQM.same hD (if_pos h4))
  · refine oRun_ok 3 rfl ?_
    refine g_callS rfl rfl rfl rfl mok_Mod_in (by decide) (c_Mod_in _ _ _ _) ?_
    rintro r10 M10 ⟨rfl, e⟩; rw [e]
    refine g_if_eq rfl (fun h13 => ?_) (fun h13 => ?_)
    · refine oRun_ok 1 rfl ?_
      exact g_iret rfl rfl rfl (oQM.same hD ((if_neg h4).trans (if_pos h13)))
    · obtain ⟨i, hi, es, ei⟩ := slot_in h4
      exact tail i hi es ei h4 h13

