/-! ===== mark, copy ===== -/
/-- the cells of the sheets change alone -/
theorem oI.cells {M M' D : oM} {f : Nat → Int32} (hI : oI M D) (hF : oFr (fun k i' => i' < 4 ∧ k = K_RPL) M M') (hc : ∀ s, s < 4 → ∀ k, k < 24 → M' K_RPL s k = f (24 * s + k)) : oI M' (oSR D K_M_cells f) := by
  have ek : ∀ k, ¬ k = K_RPL → ∀ i, M' k i = M k i := fun k hk i => hF k i (fun q => hk q.2)
  have ei : ∀ k i, ¬ i < 4 → M' k i = M k i := fun k i hi => hF k i (fun q => hi q.1)
  have kp : oKp M M' := fun k hk i => ek k ((by decide : ∀ k ∈ oRLk, ¬ k = K_RPL) k hk) i
  have dd : ∀ k, ¬ k = K_M_cells → oSR D K_M_cells f k = D k := fun k hk => oSR_ne hk
  refine ⟨hI.1.cg kp (by rw [dd _ (by decide)]), hI.img.cg kp (by rw [ek _ (by decide)]) (by rw [dd _ (by decide)]) (by rw [dd _ (by decide)]) (by rw [dd _ (by decide)]), hI.tape.cg (by rw [ek _ (by decide)]) (by rw [ek _ (by decide)]) (by rw [dd _ (by decide)]) (by rw [dd _ (by decide)]), fun x hx => ?_, hI.slot.cg (fun x hx => ⟨by rw [ek _ (by decide)], by rw [ek _ (by decide)], by rw [ei _ _ (by omega)]⟩) (by rw [dd _ (by decide)]) (by rw [dd _ (by decide)]) (by rw [dd _ (by decide)]) (by rw [dd _ (by decide)]), hI.wait.cg (by rw [ek _ (by decide)]) (by rw [ek _ (by decide)]) (by rw [dd _ (by decide)]) (by rw [dd _ (by decide)]), hI.con.cg (by rw [dd _ (by decide)]) (by rw [dd _ (by decide)])⟩
  rw [oSR_ne (k' := K_M_sorts) (by decide), oSR_ne (k' := K_M_sizes) (by decide), oSR_at, ek K_ROW (by decide)]
  obtain ⟨g1, g2, g3, g4, g5⟩ := hI.sheet x hx
  exact ⟨g1, g2, g3, g4, hc x hx⟩
def s_mark (D : oM) (s p v : Int32) : Int32 × oM := if f_Oak_isSheet s = 0 then (vBAD, D) else if D K_M_sorts 0 s.toNatClampNeg = -1 then (vNOTHING, D) else if f_Oak_isWithin p 0 (D K_M_sizes 0 s.toNatClampNeg - 1) = 0 then (vINDEX, D)
  else if D K_M_sorts 0 s.toNatClampNeg = 0 then (if v = vNONE then (vKIND, D) else (1, oSR D K_M_cells (upd (D K_M_cells 0) (24 * s.toNatClampNeg + p.toNatClampNeg) v.toInt16.toInt32)))
  else if v = vNONE then (1, oSR D K_M_cells (upd (D K_M_cells 0) (24 * s.toNatClampNeg + p.toNatClampNeg) v)) else if f_Oak_isWithin v (-99999) 99999 = 0 then (vBAD, D) else (1, oSR D K_M_cells (upd (D K_M_cells 0) (24 * s.toNatClampNeg + p.toNatClampNeg) v))
theorem sort3 {v : Int32} (h : inR v (-1) 1) : v = -1 ∨ v = 0 ∨ v = 1 := by
  have h1 := h.1
  have h2 := h.2
  rw [iEq, iEq, iEq, show (-1 : Int32).toInt = -1 from rfl, show (0 : Int32).toInt = 0 from rfl, show (1 : Int32).toInt = 1 from rfl]
  omega
theorem oI.mark {M D : oM} {i q : Nat} {v : Int32} (hI : oI M D) (hi : i < 4) (hq : q < 24) : oI (oUp M K_RPL i q v) (oSR D K_M_cells (upd (D K_M_cells 0) (24 * i + q) v)) := by
  refine hI.cells (oFr.rf.up ⟨hi, rfl⟩) (fun s hs k hk => ?_)
  have g := (hI.sheet s hs).2.2.2.2 k hk
  by_cases z : s = i
  · subst z
    rw [oUp_at]
    by_cases y : k = q
    · subst y
      rw [upd_eq]
      exact if_pos rfl
    · rw [upd_ne (by omega)]
      exact (if_neg y).trans g
  · rw [oUp_i z, upd_ne (by omega)]
    exact g
theorem size_in {M D : oM} {i : Nat} {p : Int32} (hI : oI M D) (hi : i < 4) (h : ¬ f_Oak_isWithin p 0 (D K_M_sizes 0 i - 1) = 0) : ∃ q, q < 24 ∧ p = nI q ∧ (nI q).toNatClampNeg = q ∧ (q : Int) < (D K_M_sizes 0 i).toInt := by
  obtain ⟨g1, g2, g3, g4, g5⟩ := hI.sheet i hi
  obtain ⟨m, hm, em⟩ := nI_ex (v := D K_M_sizes 0 i) (n := 25) g4.1 (by have := g4.2; omega)
  rw [em] at h
  obtain ⟨q, hq, rfl⟩ := wiI (by omega) h
  exact ⟨q, by omega, rfl, nIc (by omega), by rw [em, nIt (by omega)]; omega⟩
theorem p_mark (M D : oM) (s p v : Int32) (hI : oI M D) : oCt 3 k_Oak_mark [.inr (K_OAK, 0), .inl s, .inl p, .inl v] M (oQC (s_mark D s p v) M) := by
  have tail : ∀ i, i < 4 → s = nI i → (nI i).toNatClampNeg = i → ¬ f_Oak_isSheet s = 0 → oG k_Oak_mark 3 18 [some (.inr (K_OAK, 0)), some (.inl s), some (.inl p), some (.inl v), some (.inr (K_ROW, i))] [] M (oQC (s_mark D s p v) M) := by
    intro i hi es ei h4
    subst es
    obtain ⟨g1, g2, g3, g4, g5⟩ := hI.sheet i hi
    have cl : ∀ q u, oFr oCls M (oUp M K_RPL i q u) := fun q u => oFr.rf.cl (by decide)
    rcases sort3 g3 with so | so | so
    · have eM : M 26 i 0 = -1 := g1.trans so
      refine oRun_ok 3 rfl ?_
      rw [eM]
      refine g_ic_ne rfl (fun h24 => ?_) (fun h24 => ?_)
      · exact absurd rfl h24
      · refine oRun_ok 1 rfl ?_
        exact g_iret rfl rfl rfl (oQC.same hI ((if_neg h4).trans (if_pos (by rw [ei]; exact so))))
    · have eM : M 26 i 0 = 0 := g1.trans so
      have n1 : ¬ D K_M_sorts 0 (nI i).toNatClampNeg = -1 := by rw [ei, so]; decide
      have y0 : D K_M_sorts 0 (nI i).toNatClampNeg = 0 := by rw [ei, so]
      refine oRun_ok 3 rfl ?_
      rw [eM]
      refine g_ic_ne rfl (fun h24 => ?_) (fun h24 => ?_)
      · refine oRun_ok 2 rfl ?_
        refine g_callV rfl rfl rfl rfl rfl mok_Row_hasPlace (by decide) (c_Row_hasPlace _ i _) ?_
        rintro r34 M34 ⟨rfl, e⟩; rw [e]
        rw [show M K_ROW i 1 = _ from g2]
        refine g_if_ne rfl (fun h37 => ?_) (fun h37 => ?_)
        · obtain ⟨q, hq, rfl, eq, -⟩ := size_in hI hi h37
          refine oRun_ok 2 rfl ?_
          rw [eM]
          refine g_if_ne rfl (fun h49 => ?_) (fun h49 => ?_)
          · exact absurd rfl h49
          · refine oRun_ok 2 rfl ?_
            refine g_ic_ne rfl (fun h55 => ?_) (fun h55 => ?_)
            · refine oRun_ok 3 rfl ?_
              rw [eM]
              refine g_ic_ne rfl (fun h67 => ?_) (fun h67 => ?_)
              · refine oRun_ok 5 rfl ?_
                rw [eM]
                refine g_if_ne rfl (fun h103 => ?_) (fun h103 => ?_)
                · exact absurd rfl h103
                · refine oRun_ok 3 rfl ?_
                  refine g_iast q rfl rfl rfl (by omega) ?_
                  refine oRun_ok 1 rfl ?_
                  exact g_iret rfl rfl rfl (oQC.of ((if_neg h4).trans ((if_neg n1).trans ((if_neg (by rw [ei]; exact h37)).trans ((if_pos y0).trans ((if_neg h55).trans (by rw [ei, eq])))))) (hI.mark hi hq) (cl _ _))
              · exact absurd h67 (by decide)
            · refine oRun_ok 1 rfl ?_
              exact g_iret rfl rfl rfl (oQC.same hI ((if_neg h4).trans ((if_neg n1).trans ((if_neg (by rw [ei]; exact h37)).trans ((if_pos y0).trans (if_pos h55))))))
        · refine oRun_ok 1 rfl ?_
          exact g_iret rfl rfl rfl (oQC.same hI ((if_neg h4).trans ((if_neg n1).trans (if_pos (by rw [ei]; exact h37)))))
      · exact absurd h24 (by decide)
    · have eM : M 26 i 0 = 1 := g1.trans so
      have n1 : ¬ D K_M_sorts 0 (nI i).toNatClampNeg = -1 := by rw [ei, so]; decide
      have n0 : ¬ D K_M_sorts 0 (nI i).toNatClampNeg = 0 := by rw [ei, so]; decide
      refine oRun_ok 3 rfl ?_
      rw [eM]
      refine g_ic_ne rfl (fun h24 => ?_) (fun h24 => ?_)
      · refine oRun_ok 2 rfl ?_
        refine g_callV rfl rfl rfl rfl rfl mok_Row_hasPlace (by decide) (c_Row_hasPlace _ i _) ?_
        rintro r34 M34 ⟨rfl, e⟩; rw [e]
        rw [show M K_ROW i 1 = _ from g2]
        refine g_if_ne rfl (fun h37 => ?_) (fun h37 => ?_)
        · obtain ⟨q, hq, rfl, eq, -⟩ := size_in hI hi h37
          refine oRun_ok 2 rfl ?_
          rw [eM]
          refine g_if_ne rfl (fun h49 => ?_) (fun h49 => ?_)
          · refine oRun_ok 3 rfl ?_
            rw [eM]
            refine g_ic_ne rfl (fun h67 => ?_) (fun h67 => ?_)
            · exact absurd rfl h67
            · refine oRun_ok 2 rfl ?_
              refine g_ic_eq rfl (fun h73 => ?_) (fun h73 => ?_)
              · refine oRun_ok 5 rfl ?_
                rw [eM]
                refine g_if_ne rfl (fun h103 => ?_) (fun h103 => ?_)
                · refine oRun_ok 1 rfl ?_
                  refine g_iast q rfl rfl rfl (by omega) ?_
                  refine oRun_ok 1 rfl ?_
                  exact g_iret rfl rfl rfl (oQC.of ((if_neg h4).trans ((if_neg n1).trans ((if_neg (by rw [ei]; exact h37)).trans ((if_neg n0).trans ((if_pos h73).trans (by rw [ei, eq])))))) (hI.mark hi hq) (cl _ _))
                · exact absurd h103 (by decide)
              · refine oRun_ok 3 rfl ?_
                refine g_callS rfl rfl rfl rfl mok_Oak_isWithin (by decide) (c_Oak_isWithin _ _ _ _) ?_
                rintro r83 M83 ⟨rfl, e⟩; rw [e]
                refine g_if_ne rfl (fun h86 => ?_) (fun h86 => ?_)
                · refine oRun_ok 5 rfl ?_
                  rw [eM]
                  refine g_if_ne rfl (fun h103 => ?_) (fun h103 => ?_)
                  · refine oRun_ok 1 rfl ?_
                    refine g_iast q rfl rfl rfl (by omega) ?_
                    refine oRun_ok 1 rfl ?_
                    exact g_iret rfl rfl rfl (oQC.of ((if_neg h4).trans ((if_neg n1).trans ((if_neg (by rw [ei]; exact h37)).trans ((if_neg n0).trans ((if_neg h73).trans ((if_neg h86).trans (by rw [ei, eq]))))))) (hI.mark hi hq) (cl _ _))
                  · exact absurd h103 (by decide)
                · refine oRun_ok 1 rfl ?_
                  exact g_iret rfl rfl rfl (oQC.same hI ((if_neg h4).trans ((if_neg n1).trans ((if_neg (by rw [ei]; exact h37)).trans ((if_neg n0).trans ((if_neg h73).trans (if_pos h86)))))))
          · exact absurd h49 (by decide)
        · refine oRun_ok 1 rfl ?_
          exact g_iret rfl rfl rfl (oQC.same hI ((if_neg h4).trans ((if_neg n1).trans (if_pos (by rw [ei]; exact h37)))))
      · exact absurd h24 (by decide)
  refine oCt.of (ls := [some (.inr (K_OAK, 0)), some (.inl s), some (.inl p), some (.inl v), none]) mok_Oak_mark rfl rfl ?_
  refine oRun_ok 1 rfl ?_
  refine g_callS rfl rfl rfl rfl mok_Oak_isSheet (by decide) (c_Oak_isSheet _ _) ?_
  rintro r1 M1 ⟨rfl, e⟩; rw [e]
  refine g_if_ne rfl (fun h4 => ?_) (fun h4 => ?_)
  · obtain ⟨i, hi, es, ei⟩ := sheet_in h4
    refine oRun_ok 3 rfl ?_
    refine g_aald i rfl rfl es (by omega) (show i = 0 * 0 + i by omega) ?_
    refine oRun_ok 1 rfl ?_
    exact tail i hi es ei h4
  · refine oRun_ok 1 rfl ?_
    exact g_iret rfl rfl rfl (oQC.same hI (if_pos h4))
theorem q_mark (C M D : oM) (s p v : Int32) (hI : oI C D) (hD : oPs D M) : oCt 3 k_Mod_mark [.inr (K_MOD, 0), .inl s, .inl p, .inl v] M (oQM (s_mark D s p v) M) := by
  have e1 : M 51 0 = D K_M_sorts 0 := hD.1 _ (by decide)
  have e2 : M 52 0 = D K_M_sizes 0 := hD.1 _ (by decide)
  have e3 : M 53 0 = D K_M_cells 0 := hD.1 _ (by decide)
  have tail : ∀ i, i < 4 → s = nI i → (nI i).toNatClampNeg = i → ¬ f_Oak_isSheet s = 0 → oG k_Mod_mark 3 10 [some (.inr (K_MOD, 0)), some (.inl s), some (.inl p), some (.inl v)] [] M (oQM (s_mark D s p v) M) := by
    intro i hi es ei h4
    subst es
    obtain ⟨g1, g2, g3, g4, g5⟩ := hI.sheet i hi
    have cl : ∀ q u, oQM (1, oSR D K_M_cells (upd (D K_M_cells 0) q u)) M (some 1) (oUp M 53 0 q u) := fun q u => oQM.row (k := K_M_cells) (by decide) hD rfl (oFr.rf.up ⟨rfl, rfl⟩) (by rw [oUp_upd, ← e3])
    rcases sort3 g3 with so | so | so
    · have eM : M 51 0 i = -1 := by rw [e1]; exact so
      refine oRun_ok 3 rfl ?_
      refine g_iald i rfl rfl rfl (by omega) ?_
      rw [eM]
      refine g_if_ge rfl (fun h16 => ?_) (fun h16 => ?_)
      · exact absurd h16 (by decide)
      · refine oRun_ok 1 rfl ?_
        exact g_iret rfl rfl rfl (oQM.same hD ((if_neg h4).trans (if_pos (by rw [ei]; exact so))))
    · have eM : M 51 0 i = 0 := by rw [e1]; exact so
      have n1 : ¬ D K_M_sorts 0 (nI i).toNatClampNeg = -1 := by rw [ei, so]; decide
      have y0 : D K_M_sorts 0 (nI i).toNatClampNeg = 0 := by rw [ei, so]
      refine oRun_ok 3 rfl ?_
      refine g_iald i rfl rfl rfl (by omega) ?_
      rw [eM]
      refine g_if_ge rfl (fun h16 => ?_) (fun h16 => ?_)
      · refine oRun_ok 5 rfl ?_
        refine g_iald i rfl rfl rfl (by omega) ?_
        rw [e2]
        refine oRun_ok 2 rfl ?_
        refine g_callS rfl rfl rfl rfl mok_Mod_in (by decide) (c_Mod_in _ _ _ _) ?_
        rintro r33 M33 ⟨rfl, e⟩; rw [e]
        refine g_if_ne rfl (fun h36 => ?_) (fun h36 => ?_)
        · obtain ⟨q, hq, rfl, eq, -⟩ := size_in hI hi h36
          refine oRun_ok 3 rfl ?_
          refine g_iald i rfl rfl rfl (by omega) ?_
          rw [eM]
          refine g_if_ne rfl (fun h49 => ?_) (fun h49 => ?_)
          · exact absurd rfl h49
          · refine oRun_ok 2 rfl ?_
            refine g_ic_ne rfl (fun h55 => ?_) (fun h55 => ?_)
            · refine oRun_ok 3 rfl ?_
              refine g_iald i rfl rfl rfl (by omega) ?_
              rw [eM]
              refine oRun_ok 1 rfl ?_
              refine g_ic_ne rfl (fun h68 => ?_) (fun h68 => ?_)
              · refine oRun_ok 10 rfl ?_
                refine g_iald i rfl rfl rfl (by omega) ?_
                rw [eM]
                refine g_if_ne rfl (fun h109 => ?_) (fun h109 => ?_)
                · exact absurd rfl h109
                · refine oRun_ok 3 rfl ?_
                  refine g_iast (24 * i + q) rfl rfl (by simp only [L24, nI_times, nI_plus]) (by omega) ?_
                  refine oRun_ok 1 rfl ?_
                  refine g_iret rfl rfl rfl ?_
                  have es : s_mark D (nI i) (nI q) v = (1, oSR D K_M_cells (upd (D K_M_cells 0) (24 * i + q) v.toInt16.toInt32)) := (if_neg h4).trans ((if_neg n1).trans ((if_neg (by rw [ei]; exact h36)).trans ((if_pos y0).trans ((if_neg h55).trans (by rw [ei, eq])))))
                  rw [es]
                  exact cl _ _
              · exact absurd h68 (by decide)
            · refine oRun_ok 1 rfl ?_
              exact g_iret rfl rfl rfl (oQM.same hD ((if_neg h4).trans ((if_neg n1).trans ((if_neg (by rw [ei]; exact h36)).trans ((if_pos y0).trans (if_pos h55))))))
        · refine oRun_ok 1 rfl ?_
          exact g_iret rfl rfl rfl (oQM.same hD ((if_neg h4).trans ((if_neg n1).trans (if_pos (by rw [ei]; exact h36)))))
      · exact absurd (by decide) h16
    · have eM : M 51 0 i = 1 := by rw [e1]; exact so
      have n1 : ¬ D K_M_sorts 0 (nI i).toNatClampNeg = -1 := by rw [ei, so]; decide
      have n0 : ¬ D K_M_sorts 0 (nI i).toNatClampNeg = 0 := by rw [ei, so]; decide
      refine oRun_ok 3 rfl ?_
      refine g_iald i rfl rfl rfl (by omega) ?_
      rw [eM]
      refine g_if_ge rfl (fun h16 => ?_) (fun h16 => ?_)
      · refine oRun_ok 5 rfl ?_
        refine g_iald i rfl rfl rfl (by omega) ?_
        rw [e2]
        refine oRun_ok 2 rfl ?_
        refine g_callS rfl rfl rfl rfl mok_Mod_in (by decide) (c_Mod_in _ _ _ _) ?_
        rintro r33 M33 ⟨rfl, e⟩; rw [e]
        refine g_if_ne rfl (fun h36 => ?_) (fun h36 => ?_)
        · obtain ⟨q, hq, rfl, eq, -⟩ := size_in hI hi h36
          refine oRun_ok 3 rfl ?_
          refine g_iald i rfl rfl rfl (by omega) ?_
          rw [eM]
          refine g_if_ne rfl (fun h49 => ?_) (fun h49 => ?_)
          · refine oRun_ok 3 rfl ?_
            refine g_iald i rfl rfl rfl (by omega) ?_
            rw [eM]
            refine oRun_ok 1 rfl ?_
            refine g_ic_ne rfl (fun h68 => ?_) (fun h68 => ?_)
            · exact absurd rfl h68
            · refine oRun_ok 2 rfl ?_
              refine g_ic_eq rfl (fun h74 => ?_) (fun h74 => ?_)
              · refine oRun_ok 10 rfl ?_
                refine g_iald i rfl rfl rfl (by omega) ?_
                rw [eM]
                refine g_if_ne rfl (fun h109 => ?_) (fun h109 => ?_)
                · refine oRun_ok 1 rfl ?_
                  refine g_iast (24 * i + q) rfl rfl (by simp only [L24, nI_times, nI_plus]) (by omega) ?_
                  refine oRun_ok 1 rfl ?_
                  refine g_iret rfl rfl rfl ?_
                  have es : s_mark D (nI i) (nI q) v = (1, oSR D K_M_cells (upd (D K_M_cells 0) (24 * i + q) v)) := (if_neg h4).trans ((if_neg n1).trans ((if_neg (by rw [ei]; exact h36)).trans ((if_neg n0).trans ((if_pos h74).trans (by rw [ei, eq])))))
                  rw [es]
                  exact cl _ _
                · exact absurd h109 (by decide)
              · refine oRun_ok 3 rfl ?_
                refine g_callS rfl rfl rfl rfl mok_Mod_in (by decide) (c_Mod_in _ _ _ _) ?_
                rintro r84 M84 ⟨rfl, e⟩; rw [e]
                refine g_if_ne rfl (fun h87 => ?_) (fun h87 => ?_)
                · refine oRun_ok 10 rfl ?_
                  refine g_iald i rfl rfl rfl (by omega) ?_
                  rw [eM]
                  refine g_if_ne rfl (fun h109 => ?_) (fun h109 => ?_)
                  · refine oRun_ok 1 rfl ?_
                    refine g_iast (24 * i + q) rfl rfl (by simp only [L24, nI_times, nI_plus]) (by omega) ?_
                    refine oRun_ok 1 rfl ?_
                    refine g_iret rfl rfl rfl ?_
                    have es : s_mark D (nI i) (nI q) v = (1, oSR D K_M_cells (upd (D K_M_cells 0) (24 * i + q) v)) := (if_neg h4).trans ((if_neg n1).trans ((if_neg (by rw [ei]; exact h36)).trans ((if_neg n0).trans ((if_neg h74).trans ((if_neg h87).trans (by rw [ei, eq]))))))
                    rw [es]
                    exact cl _ _
                  · exact absurd h109 (by decide)
                · refine oRun_ok 1 rfl ?_
                  exact g_iret rfl rfl rfl (oQM.same hD ((if_neg h4).trans ((if_neg n1).trans ((if_neg (by rw [ei]; exact h36)).trans ((if_neg n0).trans ((if_neg h74).trans (if_pos h87)))))))
          · exact absurd h49 (by decide)
        · refine oRun_ok 1 rfl ?_
          exact g_iret rfl rfl rfl (oQM.same hD ((if_neg h4).trans ((if_neg n1).trans (if_pos (by rw [ei]; exact h36)))))
      · exact absurd (by decide) h16
  refine oCt.of (ls := [some (.inr (K_MOD, 0)), some (.inl s), some (.inl p), some (.inl v)]) mok_Mod_mark rfl rfl ?_
  refine oRun_ok 1 rfl ?_
  refine g_callS rfl rfl rfl rfl mok_Mod_isSheet (by decide) (c_Mod_isSheet _ _) ?_
  rintro r1 M1 ⟨rfl, e⟩; rw [e]
  refine g_if_ne rfl (fun h4 => ?_) (fun h4 => ?_)
  · obtain ⟨i, hi, es, ei⟩ := sheet_in h4
    exact tail i hi es ei h4
  · refine oRun_ok 1 rfl ?_
    exact g_iret rfl rfl rfl (oQM.same hD (if_pos h4))
-- copy
def sRun (z p m : Int32) : Int32 := if f_Oak_isWithin p 0 z = 0 then 0 else if f_Oak_isWithin m 0 (z - p) = 0 then 0 else 1
theorem c_Row_hasRun (M : oM) (i : Nat) (p m : Int32) : oCt 1 k_Row_hasRun [.inr (K_ROW, i), .inl p, .inl m] M (fun r M' => r = some (sRun (M K_ROW i 1) p m) ∧ M' = M) := by
  refine oCt.of (ls := [some (.inr (K_ROW, i)), some (.inl p), some (.inl m)]) mok_Row_hasRun rfl rfl ?_
  refine oRun_ok 4 rfl ?_
  refine g_callSN rfl rfl rfl rfl mok_Oak_isWithin (by decide) (c_Oak_isWithin _ _ _ _) ?_
  rintro r6 M6 ⟨rfl, e⟩; rw [e]
  refine g_if_eq rfl (fun h9 => ?_) (fun h9 => ?_)
  · refine oRun_ok 1 rfl ?_
    exact g_iret rfl rfl rfl ⟨by unfold sRun; rw [if_pos h9], rfl⟩
  · refine oRun_ok 6 rfl ?_
    refine g_callSN rfl rfl rfl rfl mok_Oak_isWithin (by decide) (c_Oak_isWithin _ _ _ _) ?_
    rintro r20 M20 ⟨rfl, e⟩; rw [e]
    refine g_if_eq rfl (fun h23 => ?_) (fun h23 => ?_)
    · refine oRun_ok 1 rfl ?_
      exact g_iret rfl rfl rfl ⟨by unfold sRun; rw [if_neg h9, if_pos h23], rfl⟩
    · refine oRun_ok 2 rfl ?_
      exact g_iret rfl rfl rfl ⟨by unfold sRun; rw [if_neg h9, if_neg h23], rfl⟩
theorem sRun_ok {z p m : Int32} (hz : inR z 0 24) : ¬ sRun z p m = 0 ↔ (0 ≤ p.toInt ∧ 0 ≤ m.toInt ∧ p.toInt + m.toInt ≤ z.toInt) := by
  obtain ⟨z1, z2⟩ := hz
  have hp := iRng p
  have hm := iRng m
  have t0 : (0 : Int32).toInt = 0 := rfl
  unfold sRun
  by_cases a : f_Oak_isWithin p 0 z = 0
  · rw [if_pos a]
    rw [wi_0, iLe, iLe, t0] at a
    constructor
    · intro h
      exact absurd rfl h
    · intro h
      omega
  · rw [if_neg a]
    have a' := wiR a
    rw [t0] at a'
    obtain ⟨a1, a2⟩ := a'
    have es : (z - p).toInt = z.toInt - p.toInt := iSub (by omega)
    by_cases b : f_Oak_isWithin m 0 (z - p) = 0
    · rw [if_pos b]
      rw [wi_0, iLe, iLe, t0, es] at b
      constructor
      · intro h
        exact absurd rfl h
      · intro h
        omega
    · rw [if_neg b]
      have b' := wiR b
      rw [t0, es] at b'
      obtain ⟨b1, b2⟩ := b'
      exact ⟨fun _ => by omega, fun _ => by decide⟩
def s_copy (D : oM) (f p t a m : Int32) : Int32 × oM := if f_Oak_isSheet f = 0 then (vBAD, D) else if f_Oak_isSheet t = 0 then (vBAD, D) else if D K_M_sorts 0 f.toNatClampNeg = -1 then (vNOTHING, D) else if D K_M_sorts 0 t.toNatClampNeg = -1 then (vNOTHING, D) else if D K_M_sorts 0 f.toNatClampNeg = D K_M_sorts 0 t.toNatClampNeg then
    (if sRun (D K_M_sizes 0 f.toNatClampNeg) p m = 0 then (vINDEX, D) else if sRun (D K_M_sizes 0 t.toNatClampNeg) a m = 0 then (vINDEX, D) else (m, oSR D K_M_cells (va_cpy (D K_M_cells 0) (D K_M_cells 0) (24 * f.toNatClampNeg + p.toNatClampNeg) (24 * t.toNatClampNeg + a.toNatClampNeg) m.toNatClampNeg)))
  else (vKIND, D)
theorem p_copy (M D : oM) (f p t a m : Int32) (hI : oI M D) : oCt 3 k_Oak_copy [.inr (K_OAK, 0), .inl f, .inl p, .inl t, .inl a, .inl m] M (oQC (s_copy D f p t a m) M) := by
  refine oCt.of (ls := [some (.inr (K_OAK, 0)), some (.inl f), some (.inl p), some (.inl t), some (.inl a), some (.inl m), none, none]) mok_Oak_copy rfl rfl ?_
  refine oRun_ok 1 rfl ?_
  refine g_callS rfl rfl rfl rfl mok_Oak_isSheet (by decide) (c_Oak_isSheet _ _) ?_
  rintro r1 M1 ⟨rfl, e⟩; rw [e]
  refine g_if_eq rfl (fun h4 => ?_) (fun h4 => ?_)
  · refine oRun_ok 1 rfl ?_
    exact g_iret rfl rfl rfl (oQC.same hI (if_pos h4))
  · refine oRun_ok 1 rfl ?_
    refine g_callS rfl rfl rfl rfl mok_Oak_isSheet (by decide) (c_Oak_isSheet _ _) ?_
    rintro r8 M8 ⟨rfl, e⟩; rw [e]
    refine g_if_ne rfl (fun h11 => ?_) (fun h11 => ?_)
    · obtain ⟨i, hi, rfl, ei⟩ := sheet_in h4
      obtain ⟨j, hj, rfl, ej⟩ := sheet_in h11
      obtain ⟨a1, a2, a3, a4, a5⟩ := hI.sheet i hi
      obtain ⟨b1, b2, b3, b4, b5⟩ := hI.sheet j hj
      refine oRun_ok 3 rfl ?_
      refine g_aald i rfl rfl rfl (by omega) (show i = 0 * 0 + i by omega) ?_
      refine oRun_ok 4 rfl ?_
      refine g_aald j rfl rfl rfl (by omega) (show j = 0 * 0 + j by omega) ?_
      refine oRun_ok 4 rfl ?_
      rw [show M 26 i 0 = _ from a1]
      refine g_ic_eq rfl (fun h39 => ?_) (fun h39 => ?_)
      · refine oRun_ok 1 rfl ?_
        exact g_iret rfl rfl rfl (oQC.same hI ((if_neg h4).trans ((if_neg h11).trans (if_pos (by rw [ei]; exact h39)))))
      · refine oRun_ok 3 rfl ?_
        rw [show M 26 j 0 = _ from b1]
        refine g_ic_ne rfl (fun h48 => ?_) (fun h48 => ?_)
        · refine oRun_ok 4 rfl ?_
          rw [show M 26 i 0 = _ from a1, show M 26 j 0 = _ from b1]
          refine g_ic_eq rfl (fun h65 => ?_) (fun h65 => ?_)
          · refine oRun_ok 3 rfl ?_
            refine g_callV rfl rfl rfl rfl rfl mok_Row_hasRun (by decide) (c_Row_hasRun _ i _ _) ?_
            rintro r76 M76 ⟨rfl, e⟩; rw [e]
            rw [show M K_ROW i 1 = _ from a2]
            refine g_if_eq rfl (fun h79 => ?_) (fun h79 => ?_)
            · refine oRun_ok 1 rfl ?_
              exact g_iret rfl rfl rfl (oQC.same hI ((if_neg h4).trans ((if_neg h11).trans ((if_neg (by rw [ei]; exact h39)).trans ((if_neg (by rw [ej]; exact h48)).trans ((if_pos (by rw [ei, ej]; exact h65)).trans (if_pos (by rw [ei]; exact h79))))))))
            · refine oRun_ok 3 rfl ?_
              refine g_callV rfl rfl rfl rfl rfl mok_Row_hasRun (by decide) (c_Row_hasRun _ j _ _) ?_
              rintro r88 M88 ⟨rfl, e⟩; rw [e]
              rw [show M K_ROW j 1 = _ from b2]
              refine g_if_ne rfl (fun h91 => ?_) (fun h91 => ?_)
              · have r1 := (sRun_ok a4).mp h79
                have r2 := (sRun_ok b4).mp h91
                have z1 := a4.2
                have z2 := b4.2
                have ep := nI_ofInt r1.1
                have ea := nI_ofInt r2.1
                have em := nI_ofInt r1.2.1
                have cp : p.toNatClampNeg = p.toInt.toNat := rfl
                have ca : a.toNatClampNeg = a.toInt.toNat := rfl
                have cm : m.toNatClampNeg = m.toInt.toNat := rfl
                generalize p.toInt.toNat = pn at ep cp
                generalize a.toInt.toNat = an at ea ca
                generalize m.toInt.toNat = mn at em cm
                have tp : p.toInt = pn := by
                  have := iRng p
                  have q1 : p.toInt.toNat = pn := cp
                  omega
                have ta : a.toInt = an := by
                  have := iRng a
                  have q1 : a.toInt.toNat = an := ca
                  omega
                have tm : m.toInt = mn := by
                  have := iRng m
                  have q1 : m.toInt.toNat = mn := cm
                  omega
                rw [tp, tm] at r1
                rw [ta, tm] at r2
                refine oRun_ok 7 rfl ?_
                refine g_copy (ps := 905) pn an mn rfl (by decide) (by decide) rfl rfl rfl ep ea em (by omega) (by omega) ?_
                refine oRun_ok 1 rfl ?_
                refine g_iret rfl rfl rfl ?_
                refine oQC.of (D' := oSR D K_M_cells (va_cpy (D K_M_cells 0) (D K_M_cells 0) (24 * i + pn) (24 * j + an) mn)) ?_ (hI.cells (fun k' i' q => ?_) (fun s hs k hk => ?_)) (fun k' i' q => ?_)
                · refine (if_neg h4).trans ((if_neg h11).trans ((if_neg (by rw [ei]; exact h39)).trans ((if_neg (by rw [ej]; exact h48)).trans ((if_pos (by rw [ei, ej]; exact h65)).trans ((if_neg (by rw [ei]; exact h79)).trans ((if_neg (by rw [ej]; exact h91)).trans ?_))))))
                  rw [ei, ej, cp, ca, cm]
                · exact oCp_ne (fun z => q ⟨by rw [z.2]; exact hj, z.1⟩)
                · have gs := (hI.sheet s hs).2.2.2.2 k hk
                  by_cases z : s = j
                  · subst z
                    rw [show oCp M 27 i 27 s pn an mn K_RPL s = _ from oCp_at]
                    unfold va_cpy
                    by_cases y : an ≤ k ∧ k < an + mn
                    · rw [if_pos y, if_pos (by omega), show M 27 i (pn + (k - an)) = _ from a5 _ (by omega)]
                      congr 1
                      omega
                    · rw [if_neg y, if_neg (by omega)]
                      exact gs
                  · rw [show oCp M 27 i 27 j pn an mn K_RPL s = M K_RPL s from oCp_ne (fun q => z q.2)]
                    unfold va_cpy
                    rw [if_neg (by omega)]
                    exact gs
                · exact oCp_ne (fun z => q (by show k' < 31; rw [z.1]; decide))
              · refine oRun_ok 1 rfl ?_
                exact g_iret rfl rfl rfl (oQC.same hI ((if_neg h4).trans ((if_neg h11).trans ((if_neg (by rw [ei]; exact h39)).trans ((if_neg (by rw [ej]; exact h48)).trans ((if_pos (by rw [ei, ej]; exact h65)).trans ((if_neg (by rw [ei]; exact h79)).trans (if_pos (by rw [ej]; exact h91)))))))))
          · refine oRun_ok 1 rfl ?_
            exact g_iret rfl rfl rfl (oQC.same hI ((if_neg h4).trans ((if_neg h11).trans ((if_neg (by rw [ei]; exact h39)).trans ((if_neg (by rw [ej]; exact h48)).trans (if_neg (by rw [ei, ej]; exact h65)))))))
        · refine oRun_ok 1 rfl ?_
          exact g_iret rfl rfl rfl (oQC.same hI ((if_neg h4).trans ((if_neg h11).trans ((if_neg (by rw [ei]; exact h39)).trans (if_pos (by rw [ej]; exact h48))))))
    · refine oRun_ok 1 rfl ?_
      exact g_iret rfl rfl rfl (oQC.same hI ((if_neg h4).trans (if_pos h11)))

