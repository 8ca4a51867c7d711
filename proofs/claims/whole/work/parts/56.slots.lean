/-! ===== components by themselves; tell, trim, ask, item, rest, textTold, why, count ===== -/
theorem I_land.cg {C C' D D' : oM} (h : I_land C D) (hC : oKp C C') (hD : D' K_M_now 0 = D K_M_now 0) : I_land C' D' := by
  unfold I_land at h ⊢
  rw [hD]
  exact ⟨h.1, oRL_kp hC h.2⟩
theorem I_img.cg {C C' D D' : oM} (h : I_img C D) (hC : oKp C C') (h2 : C' K_OAK 0 2 = C K_OAK 0 2) (hD : D' K_M_now 0 = D K_M_now 0) (hD2 : D' K_M_image 0 = D K_M_image 0) (h3 : D' K_MOD 0 3 = D K_MOD 0 3) : I_img C' D' := by
  unfold I_img at h ⊢
  rw [hD, hD2, h3, h2]
  exact ⟨h.1, h.2.imp id (fun q => ⟨q.1, q.2.1, oRL_kp hC q.2.2.1, q.2.2.2⟩)⟩
theorem I_tape.cg {C C' D D' : oM} (h : I_tape C D) (h1 : C' K_READER 0 1 = C K_READER 0 1) (h2 : C' K_RBYT 0 = C K_RBYT 0) (h3 : D' K_MOD 0 14 = D K_MOD 0 14) (h4 : D' K_M_tape 0 = D K_M_tape 0) : I_tape C' D' := by
  unfold I_tape at h ⊢
  rw [h1, h2, h3, h4]
  exact h
theorem I_sheet.cg {C C' D D' : oM} (h : I_sheet C D) (h1 : ∀ s, s < 4 → C' K_ROW s = C K_ROW s ∧ C' K_RPL s = C K_RPL s) (h2 : D' K_M_sorts 0 = D K_M_sorts 0) (h3 : D' K_M_sizes 0 = D K_M_sizes 0) (h4 : D' K_M_cells 0 = D K_M_cells 0) : I_sheet C' D' := by
  unfold I_sheet at h ⊢
  rw [h2, h3, h4]
  intro s hs
  rw [(h1 s hs).1, (h1 s hs).2]
  exact h s hs
theorem I_slot.cg {C C' D D' : oM} (h : I_slot C D) (h1 : ∀ s, s < 5 → C' K_SLOT s = C K_SLOT s ∧ C' K_ROW (s + 4) = C K_ROW (s + 4) ∧ C' K_RPL (s + 4) = C K_RPL (s + 4)) (h2 : D' K_M_holdsWhat 0 = D K_M_holdsWhat 0) (h3 : D' K_M_holdsA 0 = D K_M_holdsA 0) (h4 : D' K_M_holdsB 0 = D K_M_holdsB 0) (h5 : D' K_M_heldCells 0 = D K_M_heldCells 0) : I_slot C' D' := by
  unfold I_slot at h ⊢
  rw [h2, h3, h4, h5]
  intro s hs
  rw [(h1 s hs).1, (h1 s hs).2.1, (h1 s hs).2.2]
  exact h s hs
theorem I_wait.cg {C C' D D' : oM} (h : I_wait C D) (h1 : C' K_OAK 0 12 = C K_OAK 0 12) (h2 : C' K_WAIT 0 = C K_WAIT 0) (h3 : D' K_MOD 0 40 = D K_MOD 0 40) (h4 : D' K_M_tells 0 = D K_M_tells 0) : I_wait C' D' := by
  unfold I_wait at h ⊢
  rw [h1, h2, h3, h4]
  exact h
theorem I_con.cg {D D' : oM} (h : I_con D) (h1 : D' K_M_keys 0 = D K_M_keys 0) (h2 : D' K_M_keyAt 0 = D K_M_keyAt 0) : I_con D' := by
  unfold I_con at h ⊢
  rw [h1, h2]
  exact h
theorem oPs.up {D M : oM} {k j : Nat} {v : Int32} (h : oPs D M) : oPs (oUp D k 0 j v) (oUp M k 0 j v) := by
  have sl : ∀ s, M K_MOD 0 s = D K_MOD 0 s → oUp M k 0 j v K_MOD 0 s = oUp D k 0 j v K_MOD 0 s := by
    intro s e
    by_cases z : K_MOD = k
    · subst z
      by_cases y : s = j
      · rw [y, oUp_self, oUp_self]
      · rw [oUp_j y, oUp_j y, e]
    · rw [oUp_k z, oUp_k z, e]
  refine ⟨fun k' hk => ?_, sl 3 h.2.1, sl 14 h.2.2.1, sl 40 h.2.2.2⟩
  by_cases z : k' = k
  · subst z
    rw [oUp_upd, oUp_upd, h.1 k' hk]
  · rw [oUp_k z, oUp_k z, h.1 k' hk]
theorem oFr.mdl {M M1 : oM} {k j : Nat} {v : Int32} (h : oFr oMdl M M1) (hk : 31 ≤ k ∧ k < 60) : oFr oMdl M (oUp M1 k 0 j v) := h.up hk
theorem oFr.cl {M M1 : oM} {k i j : Nat} {v : Int32} (h : oFr oCls M M1) (hk : k < 31) : oFr oCls M (oUp M1 k i j v) := h.up hk
theorem oKp_up {C C1 : oM} {k i j : Nat} {v : Int32} (h : oKp C C1) (hk : ¬ k ∈ oRLk) : oKp C (oUp C1 k i j v) := fun k' hk' i' => by
  rw [oUp_k (fun z => hk (by rw [← z]; exact hk'))]
  exact h k' hk' i'
-- tell
def s_tell (D : oM) (v : Int32) : Int32 × oM := if D K_MOD 0 40 = 60 then (vFULL, D) else (D K_MOD 0 40 + 1, oUp (oUp D K_M_tells 0 (D K_MOD 0 40).toNatClampNeg v) K_MOD 0 40 (D K_MOD 0 40 + 1))
theorem p_tell (M D : oM) (v : Int32) (hI : oI M D) : oCt 3 k_Oak_tell [.inr (K_OAK, 0), .inl v] M (oQC (s_tell D v) M) := by
  obtain ⟨n, hn, c1, c2, c3⟩ := hI.wait
  refine oCt.of (ls := [some (.inr (K_OAK, 0)), some (.inl v)]) mok_Oak_tell rfl rfl ?_
  refine oRun_ok 3 rfl ?_
  rw [show M 0 0 12 = nI n from c1]
  refine g_ic_lt rfl (fun h6 => ?_) (fun h6 => ?_)
  · have h6 : n < 60 := (nIlt (a := n) (b := 60) (by omega) (by omega)).mp h6
    refine oRun_ok 5 rfl ?_
    refine g_iast n rfl rfl c1 (by omega) ?_
    refine oRun_ok 8 rfl ?_
    refine g_iret rfl rfl rfl ?_
    have e0 : oUp M 30 0 n v 0 0 12 = nI n := c1
    rw [oUp_self, e0]
    have e1 : (oUp (oUp D K_M_tells 0 (D K_MOD 0 40).toNatClampNeg v) K_MOD 0 40 (D K_MOD 0 40 + 1)) = oUp (oUp D K_M_tells 0 n v) K_MOD 0 40 (nI (n + 1)) := by rw [c2, nIc (by omega), nI_1]
    refine oQC.of (D' := oUp (oUp D K_M_tells 0 n v) K_MOD 0 40 (nI (n + 1))) ?_ ⟨hI.1.cg (oKp_up (oKp_up oKp.rf (by decide)) (by decide)) rfl, hI.img.cg (oKp_up (oKp_up oKp.rf (by decide)) (by decide)) rfl rfl rfl rfl, hI.tape.cg rfl rfl rfl rfl, hI.sheet.cg (fun s hs => ⟨rfl, rfl⟩) rfl rfl rfl, hI.slot.cg (fun s hs => ⟨rfl, rfl, rfl⟩) rfl rfl rfl rfl, ?_, hI.con.cg rfl rfl⟩ ((oFr.rf.cl (by decide)).cl (by decide))
    · refine (if_neg ?_).trans ?_
      · rw [c2, show (60 : Int32) = nI 60 from rfl, nIe (by omega) (by omega)]
        omega
      · rw [e1, c2]
    · refine ⟨n + 1, by omega, by rw [nI_1]; exact oUp_self, oUp_self, fun j hj => ?_⟩
      rw [oUp_k (k' := K_WAIT) (by decide), oUp_k (k' := K_M_tells) (by decide), oUp_at, oUp_at]
      by_cases z : j = n
      · rw [z]
        exact (if_pos rfl).trans (if_pos rfl).symm
      · exact (if_neg z).trans ((c3 j (by omega)).trans (if_neg z).symm)
  · refine oRun_ok 1 rfl ?_
    refine g_iret rfl rfl rfl (oQC.same hI (if_pos ?_))
    rw [c2]
    rw [show (60 : Int32) = nI 60 from rfl, nIlt (by omega) (by omega)] at h6
    rw [show n = 60 by omega]
    rfl
theorem q_tell (C M D : oM) (v : Int32) (hI : oI C D) (hD : oPs D M) : oCt 3 k_Mod_tell [.inr (K_MOD, 0), .inl v] M (oQM (s_tell D v) M) := by
  obtain ⟨n, hn, c1, c2, c3⟩ := hI.wait
  have hM : M 31 0 40 = nI n := hD.2.2.2.trans c2
  refine oCt.of (ls := [some (.inr (K_MOD, 0)), some (.inl v)]) mok_Mod_tell rfl rfl ?_
  refine oRun_ok 3 rfl ?_
  rw [hM]
  refine g_ic_ne rfl (fun h6 => ?_) (fun h6 => ?_)
  · have hn6 : n < 60 := by
      have : ¬ n = 60 := fun z => h6 (by rw [z]; rfl)
      omega
    refine oRun_ok 5 rfl ?_
    refine g_iast n rfl rfl hM (by omega) ?_
    refine oRun_ok 8 rfl ?_
    refine g_iret rfl rfl rfl ?_
    have e0 : oUp M 59 0 n v 31 0 40 = nI n := hM
    rw [oUp_self, e0]
    refine oQM.of (D' := oUp (oUp D K_M_tells 0 n v) K_MOD 0 40 (nI n + 1)) ?_ (hD.up.up) ((oFr.rf.mdl (by decide)).mdl (by decide))
    refine (if_neg (by rw [c2]; exact h6)).trans ?_
    rw [c2, nIc (by omega)]
  · refine oRun_ok 1 rfl ?_
    exact g_iret rfl rfl rfl (oQM.same hD (if_pos (by rw [c2]; exact h6)))
-- trim
def s_trim (D : oM) (v : Int32) : Int32 × oM := if f_Oak_isWithin v 0 (D K_MOD 0 14) = 0 then (vBAD, D) else (v, oUp D K_MOD 0 14 v)
theorem p_trim (M D : oM) (v : Int32) (hI : oI M D) : oCt 3 k_Oak_trim [.inr (K_OAK, 0), .inl v] M (oQC (s_trim D v) M) := by
  obtain ⟨n, hn, c1, c2, c3⟩ := hI.tape
  refine oCt.of (ls := [some (.inr (K_OAK, 0)), some (.inl v)]) mok_Oak_trim rfl rfl ?_
  refine oRun_ok 5 rfl ?_
  refine g_callS rfl rfl rfl rfl mok_Oak_isWithin (by decide) (c_Oak_isWithin _ _ _ _) ?_
  rintro r9 M9 ⟨rfl, e⟩; rw [e]
  rw [show M 22 0 1 = D K_MOD 0 14 from c1.trans c2.symm]
  refine g_if_ne rfl (fun h12 => ?_) (fun h12 => ?_)
  · refine oRun_ok 5 rfl ?_
    refine g_iret rfl rfl rfl ?_
    have h := wiR h12
    rw [c2, nIt (by omega)] at h
    obtain ⟨m, hm, e⟩ := nI_ex (v := v) (n := n + 1) h.1 (by have := h.2; omega)
    refine oQC.of (D' := oUp D K_MOD 0 14 v) (if_neg h12) ⟨hI.1.cg (oKp_up oKp.rf (by decide)) rfl, hI.img.cg (oKp_up oKp.rf (by decide)) rfl rfl rfl rfl, ?_, hI.sheet.cg (fun s hs => ⟨rfl, rfl⟩) rfl rfl rfl, hI.slot.cg (fun s hs => ⟨rfl, rfl, rfl⟩) rfl rfl rfl rfl, hI.wait.cg rfl rfl rfl rfl, hI.con.cg rfl rfl⟩ (oFr.rf.cl (by decide))
    exact ⟨m, by omega, oUp_self.trans e, oUp_self.trans e, fun j hj => c3 j (by omega)⟩
  · refine oRun_ok 1 rfl ?_
    exact g_iret rfl rfl rfl (oQC.same hI (if_pos h12))
theorem q_trim (C M D : oM) (v : Int32) (hI : oI C D) (hD : oPs D M) : oCt 3 k_Mod_trim [.inr (K_MOD, 0), .inl v] M (oQM (s_trim D v) M) := by
  refine oCt.of (ls := [some (.inr (K_MOD, 0)), some (.inl v)]) mok_Mod_trim rfl rfl ?_
  refine oRun_ok 4 rfl ?_
  refine g_callS rfl rfl rfl rfl mok_Mod_in (by decide) (c_Mod_in _ _ _ _) ?_
  rintro r6 M6 ⟨rfl, e⟩; rw [e]
  rw [show M 31 0 14 = D K_MOD 0 14 from hD.2.2.1]
  refine g_if_ne rfl (fun h9 => ?_) (fun h9 => ?_)
  · refine oRun_ok 4 rfl ?_
    exact g_iret rfl rfl rfl (oQM.of (if_neg h9) hD.up (oFr.rf.mdl (by decide)))
  · refine oRun_ok 1 rfl ?_
    exact g_iret rfl rfl rfl (oQM.same hD (if_pos h9))
-- slots
theorem slot_in {v : Int32} (h : ¬ f_Oak_isSlot v = 0) : ∃ i, i < 5 ∧ v = nI i ∧ (nI i).toNatClampNeg = i := by
  obtain ⟨i, hi, e⟩ := wiI (m := 5) (v := v) (by decide) h
  exact ⟨i, hi, e, nIc (by omega)⟩
theorem sheet_in {v : Int32} (h : ¬ f_Oak_isSheet v = 0) : ∃ i, i < 4 ∧ v = nI i ∧ (nI i).toNatClampNeg = i := by
  obtain ⟨i, hi, e⟩ := wiI (m := 4) (v := v) (by decide) h
  exact ⟨i, hi, e, nIc (by omega)⟩
theorem c_Row_hasPlace (M : oM) (i : Nat) (p : Int32) : oCt 1 k_Row_hasPlace [.inr (K_ROW, i), .inl p] M (fun r M' => r = some (f_Oak_isWithin p 0 (M K_ROW i 1 - 1)) ∧ M' = M) := by
  refine oCt.of (ls := [some (.inr (K_ROW, i)), some (.inl p)]) mok_Row_hasPlace rfl rfl ?_
  refine oRun_ok 6 rfl ?_
  refine g_callSN rfl rfl rfl rfl mok_Oak_isWithin (by decide) (c_Oak_isWithin _ _ _ _) ?_
  rintro r8 M8 ⟨rfl, e⟩; rw [e]
  exact g_iret rfl rfl (n_Oak_isWithin _ _ _) ⟨rfl, rfl⟩
def s_ask (D : oM) (s k : Int32) : Int32 × oM := if f_Oak_isSlot s = 0 then (vBAD, D) else if f_Oak_isKind k = 0 then (vBAD, D) else if D K_M_holdsWhat 0 s.toNatClampNeg = 0 then (vNOTHING, D) else if D K_M_holdsWhat 0 s.toNatClampNeg = 1 then (if f_Mod_isUnder (D K_M_holdsA 0 s.toNatClampNeg) k = 0 then (vKIND, D) else (D K_M_holdsB 0 s.toNatClampNeg, D)) else (vKIND, D)
theorem p_ask (M D : oM) (s k : Int32) (hI : oI M D) : oCt 3 k_Oak_ask [.inr (K_OAK, 0), .inl s, .inl k] M (oQC (s_ask D s k) M) := by
  refine oCt.of (ls := [some (.inr (K_OAK, 0)), some (.inl s), some (.inl k), none]) mok_Oak_ask rfl rfl ?_
  refine oRun_ok 1 rfl ?_
  refine g_callS rfl rfl rfl rfl mok_Oak_isSlot (by decide) (c_Oak_isSlot _ _) ?_
  rintro r1 M1 ⟨rfl, e⟩; rw [e]
  refine g_if_eq rfl (fun h4 => ?_) (fun h4 => ?_)
  · refine oRun_ok 1 rfl ?_
    exact g_iret rfl rfl rfl (oQC.same hI (if_pos h4))
  · refine oRun_ok 1 rfl ?_
    refine g_callS rfl rfl rfl rfl mok_Oak_isKind (by decide) (c_Oak_isKind _ _) ?_
    rintro r8 M8 ⟨rfl, e⟩; rw [e]
    refine g_if_ne rfl (fun h11 => ?_) (fun h11 => ?_)
    · obtain ⟨i, hi, rfl, ei⟩ := slot_in h4
      obtain ⟨b, hb, rfl⟩ := wiI (m := 6) (v := k) (by decide) h11
      obtain ⟨c0, c1, c2, c3, c4⟩ := hI.slot i hi
      refine oRun_ok 3 rfl ?_
      refine g_aald i rfl rfl rfl (by omega) (show i = 0 * 0 + i by omega) ?_
      refine oRun_ok 3 rfl ?_
      rw [show M 29 i 0 = _ from c0]
      refine g_if_ne rfl (fun h28 => ?_) (fun h28 => ?_)
      · refine oRun_ok 3 rfl ?_
        rw [show M 29 i 0 = _ from c0]
        refine g_ic_ne rfl (fun h40 => ?_) (fun h40 => ?_)
        · refine oRun_ok 1 rfl ?_
          exact g_iret rfl rfl rfl (oQC.same hI ((if_neg h4).trans ((if_neg h11).trans ((if_neg (by rw [ei]; exact h28)).trans (if_neg (by rw [ei]; exact h40))))))
        · obtain ⟨d1, d2, d3⟩ := c2 h40
          obtain ⟨a, ha, ea⟩ := nI_ex (v := D K_M_holdsA 0 i) (n := 6) d2.1 (by have := d2.2; omega)
          refine oRun_ok 3 rfl ?_
          rw [show M 29 i 1 = _ from d1, ea]
          refine g_callS rfl rfl rfl rfl mok_Oak_isOfKind (by decide) (c_Oak_isOfKind _ a b (by omega) hb) ?_
          rintro r48 M48 ⟨rfl, e⟩; rw [e]
          refine g_if_ne rfl (fun h51 => ?_) (fun h51 => ?_)
          · refine oRun_ok 6 rfl ?_
            refine g_callS rfl rfl rfl rfl mok_Oak_worthOf (by decide) (c_Oak_worthOf _ _ _ _) ?_
            rintro r69 M69 ⟨rfl, e⟩; rw [e]
            exact g_iret rfl rfl rfl (oQC.same hI ((if_neg h4).trans ((if_neg h11).trans ((if_neg (by rw [ei]; exact h28)).trans ((if_pos (by rw [ei]; exact h40)).trans ((if_neg (by rw [ei, ea]; exact h51)).trans (by rw [ei, d3])))))))
          · refine oRun_ok 1 rfl ?_
            exact g_iret rfl rfl rfl (oQC.same hI ((if_neg h4).trans ((if_neg h11).trans ((if_neg (by rw [ei]; exact h28)).trans ((if_pos (by rw [ei]; exact h40)).trans (if_pos (by rw [ei, ea]; exact h51)))))))
      · refine oRun_ok 1 rfl ?_
        exact g_iret rfl rfl rfl (oQC.same hI ((if_neg h4).trans ((if_neg h11).trans (if_pos (by rw [ei]; exact h28)))))
    · refine oRun_ok 1 rfl ?_
      exact g_iret rfl rfl rfl (oQC.same hI ((if_neg h4).trans (if_pos h11)))
theorem q_ask (C M D : oM) (s k : Int32) (hI : oI C D) (hD : oPs D M) : oCt 3 k_Mod_ask [.inr (K_MOD, 0), .inl s, .inl k] M (oQM (s_ask D s k) M) := by
  have e1 : M 54 0 = D K_M_holdsWhat 0 := hD.1 _ (by decide)
  have e2 : M 55 0 = D K_M_holdsA 0 := hD.1 _ (by decide)
  have e3 : M 56 0 = D K_M_holdsB 0 := hD.1 _ (by decide)
  refine oCt.of (ls := [some (.inr (K_MOD, 0)), some (.inl s), some (.inl k)]) mok_Mod_ask rfl rfl ?_
  refine oRun_ok 1 rfl ?_
  refine g_callS rfl rfl rfl rfl mok_Mod_isSlot (by decide) (c_Mod_isSlot _ _) ?_
  rintro r1 M1 ⟨rfl, e⟩; rw [e]
  refine g_if_eq rfl (fun h4 => ?_) (fun h4 => ?_)
  · refine oRun_ok 1 rfl ?_
    exact g_iret rfl rfl rfl (oQM.same hD (if_pos h4))
  · refine oRun_ok 3 rfl ?_
    refine g_callS rfl rfl rfl rfl mok_Mod_in (by decide) (c_Mod_in _ _ _ _) ?_
    rintro r10 M10 ⟨rfl, e⟩; rw [e]
    refine g_if_ne rfl (fun h13 => ?_) (fun h13 => ?_)
    · obtain ⟨i, hi, rfl, ei⟩ := slot_in h4
      refine oRun_ok 3 rfl ?_
      refine g_iald i rfl rfl rfl (by omega) ?_
      rw [e1]
      refine g_if_ne rfl (fun h25 => ?_) (fun h25 => ?_)
      · refine oRun_ok 3 rfl ?_
        refine g_iald i rfl rfl rfl (by omega) ?_
        rw [e1]
        refine oRun_ok 1 rfl ?_
        refine g_ic_ne rfl (fun h39 => ?_) (fun h39 => ?_)
        · refine oRun_ok 1 rfl ?_
          exact g_iret rfl rfl rfl (oQM.same hD ((if_neg h4).trans ((if_neg h13).trans ((if_neg (by rw [ei]; exact h25)).trans (if_neg (by rw [ei]; exact h39))))))
        · refine oRun_ok 3 rfl ?_
          refine g_iald i rfl rfl rfl (by omega) ?_
          rw [e2]
          refine oRun_ok 1 rfl ?_
          refine g_callS rfl rfl rfl rfl mok_Mod_isUnder (by decide) (c_Mod_isUnder _ _ _) ?_
          rintro r49 M49 ⟨rfl, e⟩; rw [e]
          refine g_if_eq rfl (fun h52 => ?_) (fun h52 => ?_)
          · refine oRun_ok 1 rfl ?_
            exact g_iret rfl rfl rfl (oQM.same hD ((if_neg h4).trans ((if_neg h13).trans ((if_neg (by rw [ei]; exact h25)).trans ((if_pos (by rw [ei]; exact h39)).trans (if_pos (by rw [ei]; exact h52)))))))
          · refine oRun_ok 3 rfl ?_
            refine g_iald i rfl rfl rfl (by omega) ?_
            rw [e3]
            refine oRun_ok 1 rfl ?_
            exact g_iret rfl rfl rfl (oQM.same hD ((if_neg h4).trans ((if_neg h13).trans ((if_neg (by rw [ei]; exact h25)).trans ((if_pos (by rw [ei]; exact h39)).trans ((if_neg (by rw [ei]; exact h52)).trans (by rw [ei])))))))
      · refine oRun_ok 1 rfl ?_
        exact g_iret rfl rfl rfl (oQM.same hD ((if_neg h4).trans ((if_neg h13).trans (if_pos (by rw [ei]; exact h25)))))
    · refine oRun_ok 1 rfl ?_
      exact g_iret rfl rfl rfl (oQM.same hD ((if_neg h4).trans (if_pos h13)))
-- item
def s_item (D : oM) (s p : Int32) : Int32 × oM := if f_Oak_isSlot s = 0 then (vBAD, D) else if D K_M_holdsWhat 0 s.toNatClampNeg = 0 then (vNOTHING, D) else if D K_M_holdsWhat 0 s.toNatClampNeg = 2 then (if f_Oak_isWithin p 0 (D K_M_holdsA 0 s.toNatClampNeg - 1) = 0 then (vINDEX, D) else if D K_M_heldCells 0 (24 * s.toNatClampNeg + p.toNatClampNeg) = vNONE then (vKIND, D) else (D K_M_heldCells 0 (24 * s.toNatClampNeg + p.toNatClampNeg), D)) else (vKIND, D)
theorem p_item (M D : oM) (s p : Int32) (hI : oI M D) : oCt 3 k_Oak_item [.inr (K_OAK, 0), .inl s, .inl p] M (oQC (s_item D s p) M) := by
  refine oCt.of (ls := [some (.inr (K_OAK, 0)), some (.inl s), some (.inl p), none]) mok_Oak_item rfl rfl ?_
  refine oRun_ok 1 rfl ?_
  refine g_callS rfl rfl rfl rfl mok_Oak_isSlot (by decide) (c_Oak_isSlot _ _) ?_
  rintro r1 M1 ⟨rfl, e⟩; rw [e]
  refine g_if_ne rfl (fun h4 => ?_) (fun h4 => ?_)
  · obtain ⟨i, hi, rfl, ei⟩ := slot_in h4
    obtain ⟨c0, c1, c2, c3, c4⟩ := hI.slot i hi
    refine oRun_ok 3 rfl ?_
    refine g_aald i rfl rfl rfl (by omega) (show i = 0 * 0 + i by omega) ?_
    refine oRun_ok 3 rfl ?_
    rw [show M 29 i 0 = _ from c0]
    refine g_if_ne rfl (fun h21 => ?_) (fun h21 => ?_)
    · refine oRun_ok 3 rfl ?_
      rw [show M 29 i 0 = _ from c0]
      refine g_ic_eq rfl (fun h33 => ?_) (fun h33 => ?_)
      · obtain ⟨d1, d2, d3⟩ := c3 h33
        refine oRun_ok 3 rfl ?_
        refine g_callV rfl rfl rfl rfl rfl mok_Row_hasPlace (by decide) (c_Row_hasPlace _ (i + 4) _) ?_
        rintro r44 M44 ⟨rfl, e⟩; rw [e]
        rw [show M K_ROW (i + 4) 1 = _ from d1]
        refine g_if_ne rfl (fun h47 => ?_) (fun h47 => ?_)
        · have h47' := h47
          obtain ⟨m, hm, em⟩ := nI_ex (v := D K_M_holdsA 0 i) (n := 25) d2.1 (by have := d2.2; omega)
          rw [em] at h47
          obtain ⟨q, hq, rfl⟩ := wiI (by omega) h47
          have eq : (nI q).toNatClampNeg = q := nIc (by omega)
          refine oRun_ok 4 rfl ?_
          refine g_iald q rfl rfl rfl (by omega) ?_
          rw [show M 27 (i + 4) q = _ from d3 q (by omega)]
          refine oRun_ok 1 rfl ?_
          refine g_ic_ne rfl (fun h65 => ?_) (fun h65 => ?_)
          · refine oRun_ok 4 rfl ?_
            refine g_iald q rfl rfl rfl (by omega) ?_
            refine g_iret rfl rfl rfl ?_
            rw [show M 27 (i + 4) q = _ from d3 q (by omega)]
            exact oQC.same hI ((if_neg h4).trans ((if_neg (by rw [ei]; exact h21)).trans ((if_pos (by rw [ei]; exact h33)).trans ((if_neg (by rw [ei]; exact h47')).trans ((if_neg (by rw [ei, eq]; exact h65)).trans (by rw [ei, eq]))))))
          · refine oRun_ok 2 rfl ?_
            exact g_iret rfl rfl rfl (oQC.same hI ((if_neg h4).trans ((if_neg (by rw [ei]; exact h21)).trans ((if_pos (by rw [ei]; exact h33)).trans ((if_neg (by rw [ei]; exact h47')).trans (if_pos (by rw [ei, eq]; exact h65)))))))
        · refine oRun_ok 1 rfl ?_
          exact g_iret rfl rfl rfl (oQC.same hI ((if_neg h4).trans ((if_neg (by rw [ei]; exact h21)).trans ((if_pos (by rw [ei]; exact h33)).trans (if_pos (by rw [ei]; exact h47))))))
      · refine oRun_ok 1 rfl ?_
        exact g_iret rfl rfl rfl (oQC.same hI ((if_neg h4).trans ((if_neg (by rw [ei]; exact h21)).trans (if_neg (by rw [ei]; exact h33)))))
    · refine oRun_ok 1 rfl ?_
      exact g_iret rfl rfl rfl (oQC.same hI ((if_neg h4).trans (if_pos (by rw [ei]; exact h21))))
  · refine oRun_ok 1 rfl ?_
    exact g_iret rfl rfl rfl (oQC.same hI (if_pos h4))
theorem q_item (C M D : oM) (s p : Int32) (hI : oI C D) (hD : oPs D M) : oCt 3 k_Mod_item [.inr (K_MOD, 0), .inl s, .inl p] M (oQM (s_item D s p) M) := by
  have e1 : M 54 0 = D K_M_holdsWhat 0 := hD.1 _ (by decide)
  have e2 : M 55 0 = D K_M_holdsA 0 := hD.1 _ (by decide)
  have e3 : M 57 0 = D K_M_heldCells 0 := hD.1 _ (by decide)
  refine oCt.of (ls := [some (.inr (K_MOD, 0)), some (.inl s), some (.inl p), none]) mok_Mod_item rfl rfl ?_
  refine oRun_ok 1 rfl ?_
  refine g_callS rfl rfl rfl rfl mok_Mod_isSlot (by decide) (c_Mod_isSlot _ _) ?_
  rintro r1 M1 ⟨rfl, e⟩; rw [e]
  refine g_if_ne rfl (fun h4 => ?_) (fun h4 => ?_)
  · obtain ⟨i, hi, rfl, ei⟩ := slot_in h4
    obtain ⟨c0, c1, c2, c3, c4⟩ := hI.slot i hi
    refine oRun_ok 3 rfl ?_
    refine g_iald i rfl rfl rfl (by omega) ?_
    rw [e1]
    refine g_if_ne rfl (fun h16 => ?_) (fun h16 => ?_)
    · refine oRun_ok 3 rfl ?_
      refine g_iald i rfl rfl rfl (by omega) ?_
      rw [e1]
      refine oRun_ok 1 rfl ?_
      refine g_ic_eq rfl (fun h30 => ?_) (fun h30 => ?_)
      · obtain ⟨d1, d2, d3⟩ := c3 h30
        refine oRun_ok 5 rfl ?_
        refine g_iald i rfl rfl rfl (by omega) ?_
        rw [e2]
        refine oRun_ok 2 rfl ?_
        refine g_callS rfl rfl rfl rfl mok_Mod_in (by decide) (c_Mod_in _ _ _ _) ?_
        rintro r46 M46 ⟨rfl, e⟩; rw [e]
        refine g_if_ne rfl (fun h49 => ?_) (fun h49 => ?_)
        · have h49' : ¬ f_Oak_isWithin p 0 (D K_M_holdsA 0 i - 1) = 0 := h49
          obtain ⟨m, hm, em⟩ := nI_ex (v := D K_M_holdsA 0 i) (n := 25) d2.1 (by have := d2.2; omega)
          rw [em] at h49
          obtain ⟨q, hq, rfl⟩ := wiI (by omega) h49
          have eq : (nI q).toNatClampNeg = q := nIc (by omega)
          refine oRun_ok 7 rfl ?_
          refine g_iald (24 * i + q) rfl rfl (by simp only [L24, nI_times, nI_plus]) (by omega) ?_
          rw [e3]
          refine oRun_ok 3 rfl ?_
          refine g_ic_ne rfl (fun h71 => ?_) (fun h71 => ?_)
          · refine oRun_ok 1 rfl ?_
            exact g_iret rfl rfl rfl (oQM.same hD ((if_neg h4).trans ((if_neg (by rw [ei]; exact h16)).trans ((if_pos (by rw [ei]; exact h30)).trans ((if_neg (by rw [ei]; exact h49')).trans ((if_neg (by rw [ei, eq]; exact h71)).trans (by rw [ei, eq])))))))
          · refine oRun_ok 2 rfl ?_
            exact g_iret rfl rfl rfl (oQM.same hD ((if_neg h4).trans ((if_neg (by rw [ei]; exact h16)).trans ((if_pos (by rw [ei]; exact h30)).trans ((if_neg (by rw [ei]; exact h49')).trans (if_pos (by rw [ei, eq]; exact h71)))))))
        · refine oRun_ok 1 rfl ?_
          exact g_iret rfl rfl rfl (oQM.same hD ((if_neg h4).trans ((if_neg (by rw [ei]; exact h16)).trans ((if_pos (by rw [ei]; exact h30)).trans (if_pos (by rw [ei]; exact h49))))))
      · refine oRun_ok 1 rfl ?_
        exact g_iret rfl rfl rfl (oQM.same hD ((if_neg h4).trans ((if_neg (by rw [ei]; exact h16)).trans (if_neg (by rw [ei]; exact h30)))))
    · refine oRun_ok 1 rfl ?_
      exact g_iret rfl rfl rfl (oQM.same hD ((if_neg h4).trans (if_pos (by rw [ei]; exact h16))))
  · refine oRun_ok 1 rfl ?_
    exact g_iret rfl rfl rfl (oQM.same hD (if_pos h4))
-- rest
def s_rest (D : oM) (s n : Int32) : Int32 × oM := if f_Oak_isSlot s = 0 then (vBAD, D) else if D K_M_holdsWhat 0 s.toNatClampNeg = 0 then (vNOTHING, D) else if D K_M_holdsWhat 0 s.toNatClampNeg = 3 then (if n = 0 then (vNO, D) else (oRem (D K_M_holdsA 0 s.toNatClampNeg) n, D)) else (vKIND, D)
theorem oRem_m1 (v : Int32) : oRem v (-1) = 0 := by
  rw [iEq, oRem_toInt (by decide), show (-1 : Int32).toInt = -1 from rfl, Int.tmod_neg, Int.tmod_one]
  rfl
theorem p_rest (M D : oM) (s n : Int32) (hI : oI M D) : oCt 3 k_Oak_rest [.inr (K_OAK, 0), .inl s, .inl n] M (oQC (s_rest D s n) M) := by
  refine oCt.of (ls := [some (.inr (K_OAK, 0)), some (.inl s), some (.inl n), none]) mok_Oak_rest rfl rfl ?_
  refine oRun_ok 1 rfl ?_
  refine g_callS rfl rfl rfl rfl mok_Oak_isSlot (by decide) (c_Oak_isSlot _ _) ?_
  rintro r1 M1 ⟨rfl, e⟩; rw [e]
  refine g_if_ne rfl (fun h4 => ?_) (fun h4 => ?_)
  · obtain ⟨i, hi, rfl, ei⟩ := slot_in h4
    obtain ⟨c0, c1, c2, c3, c4⟩ := hI.slot i hi
    refine oRun_ok 3 rfl ?_
    refine g_aald i rfl rfl rfl (by omega) (show i = 0 * 0 + i by omega) ?_
    refine oRun_ok 3 rfl ?_
    rw [show M 29 i 0 = _ from c0]
    refine g_if_ne rfl (fun h21 => ?_) (fun h21 => ?_)
    · refine oRun_ok 3 rfl ?_
      rw [show M 29 i 0 = _ from c0]
      refine g_ic_eq rfl (fun h33 => ?_) (fun h33 => ?_)
      · have d1 := c4 h33
        refine oRun_ok 1 rfl ?_
        refine g_if_ne rfl (fun h40 => ?_) (fun h40 => ?_)
        · refine oRun_ok 3 rfl ?_
          refine g_irem rfl (h40) ?_
          exact g_iret rfl rfl rfl (oQC.same hI ((if_neg h4).trans ((if_neg (by rw [ei]; exact h21)).trans ((if_pos (by rw [ei]; exact h33)).trans ((if_neg h40).trans (by rw [ei, show M 29 i 4 = _ from d1]))))))
        · refine oRun_ok 2 rfl ?_
          exact g_iret rfl rfl rfl (oQC.same hI ((if_neg h4).trans ((if_neg (by rw [ei]; exact h21)).trans ((if_pos (by rw [ei]; exact h33)).trans (if_pos h40)))))
      · refine oRun_ok 1 rfl ?_
        exact g_iret rfl rfl rfl (oQC.same hI ((if_neg h4).trans ((if_neg (by rw [ei]; exact h21)).trans (if_neg (by rw [ei]; exact h33)))))
    · refine oRun_ok 1 rfl ?_
      exact g_iret rfl rfl rfl (oQC.same hI ((if_neg h4).trans (if_pos (by rw [ei]; exact h21))))
  · refine oRun_ok 1 rfl ?_
    exact g_iret rfl rfl rfl (oQC.same hI (if_pos h4))
theorem q_rest (C M D : oM) (s n : Int32) (hI : oI C D) (hD : oPs D M) : oCt 3 k_Mod_rest [.inr (K_MOD, 0), .inl s, .inl n] M (oQM (s_rest D s n) M) := by
  have e1 : M 54 0 = D K_M_holdsWhat 0 := hD.1 _ (by decide)
  have e2 : M 55 0 = D K_M_holdsA 0 := hD.1 _ (by decide)
  refine oCt.of (ls := [some (.inr (K_MOD, 0)), some (.inl s), some (.inl n)]) mok_Mod_rest rfl rfl ?_
  refine oRun_ok 1 rfl ?_
  refine g_callS rfl rfl rfl rfl mok_Mod_isSlot (by decide) (c_Mod_isSlot _ _) ?_
  rintro r1 M1 ⟨rfl, e⟩; rw [e]
  refine g_if_ne rfl (fun h4 => ?_) (fun h4 => ?_)
  · obtain ⟨i, hi, rfl, ei⟩ := slot_in h4
    refine oRun_ok 3 rfl ?_
    refine g_iald i rfl rfl rfl (by omega) ?_
    rw [e1]
    refine g_if_ne rfl (fun h16 => ?_) (fun h16 => ?_)
    · refine oRun_ok 3 rfl ?_
      refine g_iald i rfl rfl rfl (by omega) ?_
      rw [e1]
      refine oRun_ok 1 rfl ?_
      refine g_ic_eq rfl (fun h30 => ?_) (fun h30 => ?_)
      · refine oRun_ok 1 rfl ?_
        refine g_if_ne rfl (fun h37 => ?_) (fun h37 => ?_)
        · refine oRun_ok 2 rfl ?_
          refine g_ic_ne rfl (fun h48 => ?_) (fun h48 => ?_)
          · refine oRun_ok 3 rfl ?_
            refine g_iald i rfl rfl rfl (by omega) ?_
            rw [e2]
            refine oRun_ok 1 rfl ?_
            refine g_irem rfl (h37) ?_
            exact g_iret rfl rfl rfl (oQM.same hD ((if_neg h4).trans ((if_neg (by rw [ei]; exact h16)).trans ((if_pos (by rw [ei]; exact h30)).trans ((if_neg h37).trans (by rw [ei]))))))
          · refine oRun_ok 2 rfl ?_
            exact g_iret rfl rfl rfl (oQM.same hD ((if_neg h4).trans ((if_neg (by rw [ei]; exact h16)).trans ((if_pos (by rw [ei]; exact h30)).trans ((if_neg h37).trans (by rw [h48, oRem_m1]))))))
        · refine oRun_ok 2 rfl ?_
          exact g_iret rfl rfl rfl (oQM.same hD ((if_neg h4).trans ((if_neg (by rw [ei]; exact h16)).trans ((if_pos (by rw [ei]; exact h30)).trans (if_pos h37)))))
      · refine oRun_ok 1 rfl ?_
        exact g_iret rfl rfl rfl (oQM.same hD ((if_neg h4).trans ((if_neg (by rw [ei]; exact h16)).trans (if_neg (by rw [ei]; exact h30)))))
    · refine oRun_ok 1 rfl ?_
      exact g_iret rfl rfl rfl (oQM.same hD ((if_neg h4).trans (if_pos (by rw [ei]; exact h16))))
  · refine oRun_ok 1 rfl ?_
    exact g_iret rfl rfl rfl (oQM.same hD (if_pos h4))

