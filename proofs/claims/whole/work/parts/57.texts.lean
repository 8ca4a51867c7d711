/-! ===== textTold, why, count, sheet, mark ===== -/
def s_textTold (D : oM) (t w : Int32) : Int32 × oM := if f_Oak_isWithin t 0 (D K_M_now 0 3 - 1) = 0 then (vBAD, D) else if f_Oak_isWithin w 0 1 = 0 then (vBAD, D) else if w = 0 then (tK (D K_M_now 0) t.toNatClampNeg, D) else (D K_M_now 0 (160 + 2 * t.toNatClampNeg + 1), D)
theorem oHasT {C D : oM} {d : Int32} (hI : oI C D) (h : ¬ f_Oak_isWithin d 0 (D K_M_now 0 3 - 1) = 0) : ∃ j, j < cT (D K_M_now 0) ∧ j < 14 ∧ d = nI j ∧ (nI j).toNatClampNeg = j := by
  obtain ⟨hD, d4⟩ := oNT hI.ok
  rw [hD] at h
  obtain ⟨j, hj, e⟩ := wiI (by omega) h
  exact ⟨j, hj, by omega, e, nIc (by omega)⟩
theorem p_textTold (M D : oM) (t w : Int32) (hI : oI M D) : oCt 3 k_Oak_textTold [.inr (K_OAK, 0), .inl t, .inl w] M (oQC (s_textTold D t w) M) := by
  refine oCt.of (ls := [some (.inr (K_OAK, 0)), some (.inl t), some (.inl w)]) mok_Oak_textTold rfl rfl ?_
  refine oRun_ok 7 rfl ?_
  rw [show M 1 0 6 = _ from hI.tx]
  refine g_callS rfl rfl rfl rfl mok_Oak_isWithin (by decide) (c_Oak_isWithin _ _ _ _) ?_
  rintro r11 M11 ⟨rfl, e⟩; rw [e]
  refine g_if_eq rfl (fun h14 => ?_) (fun h14 => ?_)
  · refine oRun_ok 1 rfl ?_
    exact g_iret rfl rfl rfl (oQC.same hI (if_pos h14))
  · refine oRun_ok 3 rfl ?_
    refine g_callS rfl rfl rfl rfl mok_Oak_isWithin (by decide) (c_Oak_isWithin _ _ _ _) ?_
    rintro r20 M20 ⟨rfl, e⟩; rw [e]
    refine g_if_ne rfl (fun h23 => ?_) (fun h23 => ?_)
    · obtain ⟨j, hj, hj4, rfl, ej⟩ := oHasT hI h14
      obtain ⟨a1, a2, -⟩ := hI.rl.2.2.2.2.2.2 j hj
      refine oRun_ok 1 rfl ?_
      refine g_if_ne rfl (fun h30 => ?_) (fun h30 => ?_)
      · refine oRun_ok 4 rfl ?_
        refine g_aald j rfl rfl rfl (by omega) (show j = 0 * 0 + j by omega) ?_
        refine oRun_ok 1 rfl ?_
        exact g_iret rfl rfl rfl (oQC.same hI ((if_neg h14).trans ((if_neg h23).trans ((if_neg h30).trans (by rw [ej, show M 19 j 1 = _ from a2])))))
      · refine oRun_ok 4 rfl ?_
        refine g_aald j rfl rfl rfl (by omega) (show j = 0 * 0 + j by omega) ?_
        refine oRun_ok 2 rfl ?_
        exact g_iret rfl rfl rfl (oQC.same hI ((if_neg h14).trans ((if_neg h23).trans ((if_pos h30).trans (by rw [ej, show M 19 j 0 = _ from a1])))))
    · refine oRun_ok 1 rfl ?_
      exact g_iret rfl rfl rfl (oQC.same hI ((if_neg h14).trans (if_pos h23)))
theorem q_textTold (C M D : oM) (t w : Int32) (hI : oI C D) (hD : oPs D M) : oCt 3 k_Mod_textTold [.inr (K_MOD, 0), .inl t, .inl w] M (oQM (s_textTold D t w) M) := by
  have hN := hD.now
  refine oCt.of (ls := [some (.inr (K_MOD, 0)), some (.inl t), some (.inl w)]) mok_Mod_textTold rfl rfl ?_
  refine oRun_ok 5 rfl ?_
  refine g_iald 3 rfl rfl rfl (by decide) ?_
  rw [show M 32 0 = _ from hN]
  refine oRun_ok 2 rfl ?_
  refine g_callS rfl rfl rfl rfl mok_Mod_in (by decide) (c_Mod_in _ _ _ _) ?_
  rintro r10 M10 ⟨rfl, e⟩; rw [e]
  refine g_if_eq rfl (fun h13 => ?_) (fun h13 => ?_)
  · refine oRun_ok 1 rfl ?_
    exact g_iret rfl rfl rfl (oQM.same hD (if_pos h13))
  · refine oRun_ok 3 rfl ?_
    refine g_callS rfl rfl rfl rfl mok_Mod_in (by decide) (c_Mod_in _ _ _ _) ?_
    rintro r19 M19 ⟨rfl, e⟩; rw [e]
    refine g_if_ne rfl (fun h22 => ?_) (fun h22 => ?_)
    · obtain ⟨j, hj, hj4, rfl, ej⟩ := oHasT hI h13
      refine oRun_ok 1 rfl ?_
      refine g_if_ne rfl (fun h29 => ?_) (fun h29 => ?_)
      · refine oRun_ok 9 rfl ?_
        refine g_iald (160 + 2 * j + 1) rfl rfl (by simp only [L160, L2, L1, nI_times, nI_plus]) (by omega) ?_
        rw [show M 32 0 = _ from hN]
        exact g_iret rfl rfl rfl (oQM.same hD ((if_neg h13).trans ((if_neg h22).trans ((if_neg h29).trans (by rw [ej])))))
      · refine oRun_ok 7 rfl ?_
        refine g_iald (160 + 2 * j) rfl rfl (by simp only [L160, L2, nI_times, nI_plus]) (by omega) ?_
        rw [show M 32 0 = _ from hN]
        refine oRun_ok 3 rfl ?_
        exact g_iret rfl rfl rfl (oQM.same hD ((if_neg h13).trans ((if_neg h22).trans ((if_pos h29).trans (by rw [ej]; rfl)))))
    · refine oRun_ok 1 rfl ?_
      exact g_iret rfl rfl rfl (oQM.same hD ((if_neg h13).trans (if_pos h22)))
-- why
def s_why (D : oM) (k : Int32) : Int32 × oM := if f_Oak_isWithin k 0 2 = 0 then (vBAD, D) else (oLr (oLast (D K_M_now 0) k (cT (D K_M_now 0))), D)
theorem p_why (M D : oM) (k : Int32) (hI : oI M D) : oCt 3 k_Oak_why [.inr (K_OAK, 0), .inl k] M (oQC (s_why D k) M) := by
  obtain ⟨⟨g1, g2⟩, g3⟩ := oRL_last hI.ok hI.rl
  refine oCt.of (ls := [some (.inr (K_OAK, 0)), some (.inl k)]) mok_Oak_why rfl rfl ?_
  refine oRun_ok 3 rfl ?_
  refine g_callS rfl rfl rfl rfl mok_Oak_isWithin (by decide) (c_Oak_isWithin _ _ _ _) ?_
  rintro r3 M3 ⟨rfl, e⟩; rw [e]
  refine g_if_ne rfl (fun h6 => ?_) (fun h6 => ?_)
  · refine oRun_ok 6 rfl ?_
    rw [show M 1 0 6 = _ from g1]
    refine g_callV rfl rfl rfl rfl rfl mok_Laws_lastOf (by decide) (c_Laws_lastOf _ (D K_M_now 0) _ _ g2 g3) ?_
    rintro r24 M24 ⟨rfl, e⟩; rw [e]
    exact g_iret rfl rfl rfl (oQC.same hI (if_neg h6))
  · refine oRun_ok 1 rfl ?_
    exact g_iret rfl rfl rfl (oQC.same hI (if_pos h6))
theorem q_why (C M D : oM) (k : Int32) (hI : oI C D) (hD : oPs D M) : oCt 3 k_Mod_why [.inr (K_MOD, 0), .inl k] M (oQM (s_why D k) M) := by
  have hN := hD.now
  obtain ⟨-, t14⟩ := oNT hI.ok
  refine oCt.of (ls := [some (.inr (K_MOD, 0)), some (.inl k), none]) mok_Mod_why rfl rfl ?_
  refine oRun_ok 3 rfl ?_
  refine g_callS rfl rfl rfl rfl mok_Mod_in (by decide) (c_Mod_in _ _ _ _) ?_
  rintro r3 M3 ⟨rfl, e⟩; rw [e]
  refine g_if_ne rfl (fun h6 => ?_) (fun h6 => ?_)
  · refine oRun_ok 2 rfl ?_
    refine g_callV rfl rfl rfl rfl rfl mok_Mod_counts (by decide) (c_Mod_counts _ _ (by rw [hN]; exact hI.ok)) ?_
    rintro r14 M14 ⟨rfl, e⟩; rw [e]
    rw [hN]
    have fin : s_why D k = (oLr (oLast (D K_M_now 0) k (cT (D K_M_now 0))), D) := if_neg h6
    cases hz : oLast (D K_M_now 0) k (cT (D K_M_now 0)) with
    | none =>
      rw [hz] at fin
      refine oRun_ok 2 rfl ?_
      refine g_if_ge rfl (fun z => absurd z (by decide)) (fun _ => ?_)
      refine oRun_ok 2 rfl ?_
      exact g_iret rfl rfl rfl (oQM.same hD fin)
    | some t =>
      rw [hz] at fin
      have := (oLast_lt hz).1
      refine oRun_ok 2 rfl ?_
      refine g_if_ge rfl (fun _ => ?_) (fun z => absurd (Int32.not_lt.mp (nI_pos (by omega))) z)
      refine oRun_ok 1 rfl ?_
      exact g_iret rfl rfl rfl (oQM.same hD fin)
  · refine oRun_ok 1 rfl ?_
    exact g_iret rfl rfl rfl (oQM.same hD (if_pos h6))
-- count
def s_count (D : oM) (w : Int32) : Int32 × oM := (if w = 0 then D K_M_now 0 1 else if w = 1 then D K_M_now 0 2 else if w = 2 then oSumC (D K_M_now 0) (cD (D K_M_now 0)) else if w = 3 then D K_M_now 0 3 else if w = 4 then D K_MOD 0 40 else if w = 5 then D K_MOD 0 14 else if w = 6 then D K_M_now 0 0 else vBAD, D)
theorem p_count (M D : oM) (w : Int32) (hI : oI M D) : oCt 3 k_Oak_count [.inr (K_OAK, 0), .inl w] M (oQC (s_count D w) M) := by
  obtain ⟨n, hn, c1, c2, c3⟩ := hI.wait
  obtain ⟨m, hm, d1, d2, d3⟩ := hI.tape
  refine oCt.of (ls := [some (.inr (K_OAK, 0)), some (.inl w)]) mok_Oak_count rfl rfl ?_
  refine oRun_ok 1 rfl ?_
  refine g_tsw [(0, 44), (1, 52), (2, 60), (3, 68), (4, 76), (5, 81), (6, 89)] 97 rfl (by decide +kernel) rfl ⟨fun h1 => ?_, fun h1 => ?_, fun h1 => ?_, fun h1 => ?_, fun h1 => ?_, fun h1 => ?_, fun h1 => ?_, trivial⟩ (fun h1 => ?_)
  · subst h1
    refine oRun_ok 3 rfl ?_
    exact g_iret rfl rfl rfl (oQC.same hI (by rw [show M 1 0 1 = _ from hI.st]; rfl))
  · subst h1
    refine oRun_ok 3 rfl ?_
    exact g_iret rfl rfl rfl (oQC.same hI (by rw [show M 1 0 4 = _ from hI.dd]; rfl))
  · subst h1
    refine oRun_ok 2 rfl ?_
    refine g_callV rfl rfl rfl rfl rfl mok_Land_callsOfAll (by decide) (c_Land_callsOfAll _ (D K_M_now 0) 0 hI.ok hI.rl) ?_
    rintro r64 M64 ⟨rfl, e⟩; rw [e]
    exact g_iret rfl rfl rfl (oQC.same hI rfl)
  · subst h1
    refine oRun_ok 3 rfl ?_
    exact g_iret rfl rfl rfl (oQC.same hI (by rw [show M 1 0 6 = _ from hI.tx]; rfl))
  · subst h1
    refine oRun_ok 2 rfl ?_
    exact g_iret rfl rfl rfl (oQC.same hI (by rw [show M 0 0 12 = D K_MOD 0 40 from c1.trans c2.symm]; rfl))
  · subst h1
    refine oRun_ok 3 rfl ?_
    exact g_iret rfl rfl rfl (oQC.same hI (by rw [show M 22 0 1 = D K_MOD 0 14 from d1.trans d2.symm]; rfl))
  · subst h1
    refine oRun_ok 3 rfl ?_
    exact g_iret rfl rfl rfl (oQC.same hI (by rw [show M 1 0 7 = _ from hI.zz]; rfl))
  · refine oRun_ok 1 rfl ?_
    refine g_iret rfl rfl rfl (oQC.same hI ?_)
    unfold s_count
    rw [if_neg (h1 (0, 44) (by decide)), if_neg (h1 (1, 52) (by decide)), if_neg (h1 (2, 60) (by decide)), if_neg (h1 (3, 68) (by decide)), if_neg (h1 (4, 76) (by decide)), if_neg (h1 (5, 81) (by decide)), if_neg (h1 (6, 89) (by decide))]
theorem q_count (C M D : oM) (w : Int32) (hI : oI C D) (hD : oPs D M) : oCt 3 k_Mod_count [.inr (K_MOD, 0), .inl w] M (oQM (s_count D w) M) := by
  have hN := hD.now
  obtain ⟨hDD, d4⟩ := oND hI.ok
  refine oCt.of (ls := [some (.inr (K_MOD, 0)), some (.inl w), none, none]) mok_Mod_count rfl rfl ?_
  refine oRun_ok 3 rfl ?_
  refine g_tsw [(0, 44), (1, 51), (2, 58), (3, 87), (4, 94), (5, 99), (6, 104)] 111 rfl (by decide +kernel) rfl ⟨fun h3 => ?_, fun h3 => ?_, fun h3 => ?_, fun h3 => ?_, fun h3 => ?_, fun h3 => ?_, fun h3 => ?_, trivial⟩ (fun h3 => ?_)
  · subst h3
    refine oRun_ok 3 rfl ?_
    refine g_iald 1 rfl rfl rfl (by decide) ?_
    exact g_iret rfl rfl rfl (oQM.same hD (by rw [show M 32 0 = _ from hN]; rfl))
  · subst h3
    refine oRun_ok 3 rfl ?_
    refine g_iald 2 rfl rfl rfl (by decide) ?_
    exact g_iret rfl rfl rfl (oQM.same hD (by rw [show M 32 0 = _ from hN]; rfl))
  · subst h3
    refine oRun_ok 2 rfl ?_
    have loop : ∀ (q k : Nat), k + q = cD (D K_M_now 0) → oG k_Mod_count 3 60 [some (.inr (K_MOD, 0)), some (.inl 2), some (.inl (oSumC (D K_M_now 0) k)), some (.inl (nI k))] [] M (oQM (s_count D 2) M) := by
      intro q
      induction q with
      | zero =>
        intro k hk
        obtain rfl : k = cD (D K_M_now 0) := by omega
        refine oRun_ok 4 rfl ?_
        refine g_iald 2 rfl rfl rfl (by decide) ?_
        rw [show M 32 0 = _ from hN, hDD]
        refine g_ic_ge rfl (fun _ => ?_) (fun z => absurd (Int32.le_refl _) z)
        refine oRun_ok 1 rfl ?_
        exact g_iret rfl rfl rfl (oQM.same hD rfl)
      | succ q ih =>
        intro k hk
        refine oRun_ok 4 rfl ?_
        refine g_iald 2 rfl rfl rfl (by decide) ?_
        rw [show M 32 0 = _ from hN, hDD]
        refine g_ic_ge rfl (fun z => ?_) (fun _ => ?_)
        · rw [nIle (by omega) (by omega)] at z
          omega
        refine oRun_ok 4 rfl ?_
        refine g_callV rfl rfl rfl rfl rfl mok_Mod_of (by decide) (c_Mod_of _ k 4 (by omega) (by decide)) ?_
        rintro r M1 ⟨rfl, e⟩; rw [e, hN]
        refine oRun_ok 4 rfl ?_
        rw [nI_1]
        exact ih (k + 1) (by omega)
    exact loop (cD (D K_M_now 0)) 0 (by omega)
  · subst h3
    refine oRun_ok 3 rfl ?_
    refine g_iald 3 rfl rfl rfl (by decide) ?_
    exact g_iret rfl rfl rfl (oQM.same hD (by rw [show M 32 0 = _ from hN]; rfl))
  · subst h3
    refine oRun_ok 2 rfl ?_
    exact g_iret rfl rfl rfl (oQM.same hD (by rw [show M 31 0 40 = _ from hD.2.2.2]; rfl))
  · subst h3
    refine oRun_ok 2 rfl ?_
    exact g_iret rfl rfl rfl (oQM.same hD (by rw [show M 31 0 14 = _ from hD.2.2.1]; rfl))
  · subst h3
    refine oRun_ok 3 rfl ?_
    refine g_iald 0 rfl rfl rfl (by decide) ?_
    exact g_iret rfl rfl rfl (oQM.same hD (by rw [show M 32 0 = _ from hN]; rfl))
  · refine oRun_ok 1 rfl ?_
    refine g_iret rfl rfl rfl (oQM.same hD ?_)
    unfold s_count
    rw [if_neg (h3 (0, 44) (by decide)), if_neg (h3 (1, 51) (by decide)), if_neg (h3 (2, 58) (by decide)), if_neg (h3 (3, 87) (by decide)), if_neg (h3 (4, 94) (by decide)), if_neg (h3 (5, 99) (by decide)), if_neg (h3 (6, 104) (by decide))]
-- sheet
def f_zero (f : Nat → Int32) (s k : Nat) : Nat → Int32 := fun j => if 24 * s ≤ j ∧ j < 24 * s + k then 0 else f j
def D_sheet (D : oM) (s : Nat) (o n : Int32) : oM := oSR (oUp (oUp D K_M_sorts 0 s o) K_M_sizes 0 s n) K_M_cells (f_zero (D K_M_cells 0) s 24)
def s_sheet (D : oM) (s o n : Int32) : Int32 × oM := if f_Oak_isSheet s = 0 then (vBAD, D) else if f_Oak_isWithin o (-1) 1 = 0 then (vBAD, D) else if o = -1 then (0, D_sheet D s.toNatClampNeg o 0) else if 24 < n then (vBAD, D) else if n < 0 then (vSIZE, D) else (n, D_sheet D s.toNatClampNeg o n)
theorem c_Row_become (M : oM) (i : Nat) (o n : Int32) : oCt 1 k_Row_become [.inr (K_ROW, i), .inl o, .inl n] M (fun r M' => r = none ∧ M' K_ROW i 0 = o ∧ M' K_ROW i 1 = n ∧ (∀ j, j < 24 → M' K_RPL i j = 0) ∧ oFr (fun k i' => i' = i ∧ (k = K_ROW ∨ k = K_RPL)) M M') := by
  refine oCt.of (ls := [some (.inr (K_ROW, i)), some (.inl o), some (.inl n)]) mok_Row_become rfl rfl ?_
  refine oRun_ok 9 rfl ?_
  refine g_callS rfl rfl rfl rfl mok_Arrays_fill (by decide) (c_fill_RPL _ i 0) ?_
  rintro r15 M15 ⟨rfl, f1, f2⟩
  refine g_ret rfl rfl ⟨rfl, ?_, ?_, f1, ?_⟩
  · rw [f2 K_ROW i (fun q => absurd q.1 (by decide))]
    exact (oUp_j (by decide)).trans oUp_self
  · rw [f2 K_ROW i (fun q => absurd q.1 (by decide))]
    exact oUp_self
  · exact ((oFr.rf.up ⟨rfl, Or.inl rfl⟩).up ⟨rfl, Or.inl rfl⟩).tr (f2.mono (fun k i' q => ⟨q.2, Or.inr q.1⟩))
theorem oI.sheet' {M M' D : oM} {s : Nat} {o n : Int32} (hI : oI M D) (hs : s < 4) (ho : inR o (-1) 1) (hn : inR n 0 24) (f0 : M' K_ROW s 0 = o) (f1 : M' K_ROW s 1 = n) (f2 : ∀ j, j < 24 → M' K_RPL s j = 0) (hF : oFr (fun k i' => i' = s ∧ (k = K_ROW ∨ k = K_RPL)) M M') : oI M' (D_sheet D s o n) := by
  have ek : ∀ k, ¬ (k = K_ROW ∨ k = K_RPL) → ∀ i, M' k i = M k i := fun k hk i => hF k i (fun q => hk q.2)
  have ei : ∀ k i, ¬ i = s → M' k i = M k i := fun k i hi => hF k i (fun q => hi q.1)
  have kp : oKp M M' := fun k hk i => ek k ((by decide : ∀ k ∈ oRLk, ¬ (k = K_ROW ∨ k = K_RPL)) k hk) i
  have dd : ∀ k, ¬ (k = K_M_sorts ∨ k = K_M_sizes ∨ k = K_M_cells) → D_sheet D s o n k = D k := by
    intro k hk
    unfold D_sheet
    rw [oSR_ne (fun z => hk (Or.inr (Or.inr z))), oUp_k (fun z => hk (Or.inr (Or.inl z))), oUp_k (fun z => hk (Or.inl z))]
  refine ⟨hI.1.cg kp (by rw [dd _ (by decide)]), hI.img.cg kp (by rw [ek _ (by decide)]) (by rw [dd _ (by decide)]) (by rw [dd _ (by decide)]) (by rw [dd _ (by decide)]), hI.tape.cg (by rw [ek _ (by decide)]) (by rw [ek _ (by decide)]) (by rw [dd _ (by decide)]) (by rw [dd _ (by decide)]), fun x hx => ?_, hI.slot.cg (fun x hx => ⟨by rw [ek _ (by decide)], by rw [ei _ _ (by omega)], by rw [ei _ _ (by omega)]⟩) (by rw [dd _ (by decide)]) (by rw [dd _ (by decide)]) (by rw [dd _ (by decide)]) (by rw [dd _ (by decide)]), hI.wait.cg (by rw [ek _ (by decide)]) (by rw [ek _ (by decide)]) (by rw [dd _ (by decide)]) (by rw [dd _ (by decide)]), hI.con.cg (by rw [dd _ (by decide)]) (by rw [dd _ (by decide)])⟩
  have s1 : D_sheet D s o n K_M_sorts 0 = upd (D K_M_sorts 0) s o := by
    unfold D_sheet
    rw [oSR_ne (by decide), oUp_k (by decide), oUp_upd]
  have s2 : D_sheet D s o n K_M_sizes 0 = upd (D K_M_sizes 0) s n := by
    unfold D_sheet
    rw [oSR_ne (by decide), oUp_upd, oUp_k (by decide)]
  have s3 : D_sheet D s o n K_M_cells 0 = f_zero (D K_M_cells 0) s 24 := by
    unfold D_sheet
    rw [oSR_at]
  rw [s1, s2, s3]
  by_cases z : x = s
  · subst z
    rw [upd_eq, upd_eq]
    refine ⟨f0, f1, ho, hn, fun k hk => ?_⟩
    rw [f2 k hk]
    unfold f_zero
    rw [if_pos (by omega)]
  · rw [upd_ne z, upd_ne z, ei _ _ z, ei _ _ z]
    obtain ⟨g1, g2, g3, g4, g5⟩ := hI.sheet x hx
    refine ⟨g1, g2, g3, g4, fun k hk => ?_⟩
    unfold f_zero
    rw [if_neg (by omega)]
    exact g5 k hk
theorem oRow_cls {s : Nat} {M M' : oM} (hF : oFr (fun k i' => i' = s ∧ (k = K_ROW ∨ k = K_RPL)) M M') : oFr oCls M M' := hF.mono (fun k i q => by
  show k < 31
  rcases q.2 with h | h <;> rw [h] <;> decide)
theorem p_sheet (M D : oM) (s o n : Int32) (hI : oI M D) : oCt 3 k_Oak_sheet [.inr (K_OAK, 0), .inl s, .inl o, .inl n] M (oQC (s_sheet D s o n) M) := by
  refine oCt.of (ls := [some (.inr (K_OAK, 0)), some (.inl s), some (.inl o), some (.inl n)]) mok_Oak_sheet rfl rfl ?_
  refine oRun_ok 1 rfl ?_
  refine g_callS rfl rfl rfl rfl mok_Oak_isSheet (by decide) (c_Oak_isSheet _ _) ?_
  rintro r1 M1 ⟨rfl, e⟩; rw [e]
  refine g_if_eq rfl (fun h4 => ?_) (fun h4 => ?_)
  · refine oRun_ok 1 rfl ?_
    exact g_iret rfl rfl rfl (oQC.same hI (if_pos h4))
  · refine oRun_ok 3 rfl ?_
    refine g_callS rfl rfl rfl rfl mok_Oak_isWithin (by decide) (c_Oak_isWithin _ _ _ _) ?_
    rintro r10 M10 ⟨rfl, e⟩; rw [e]
    refine g_if_ne rfl (fun h13 => ?_) (fun h13 => ?_)
    · obtain ⟨i, hi, rfl, ei⟩ := sheet_in h4
      have ho := wiR h13
      refine oRun_ok 2 rfl ?_
      refine g_ic_ne rfl (fun h21 => ?_) (fun h21 => ?_)
      · refine oRun_ok 2 rfl ?_
        refine g_ic_le rfl (fun h40 => ?_) (fun h40 => ?_)
        · refine oRun_ok 1 rfl ?_
          refine g_if_ge rfl (fun h47 => ?_) (fun h47 => ?_)
          · refine oRun_ok 3 rfl ?_
            refine g_aald i rfl rfl rfl (by omega) (show i = 0 * 0 + i by omega) ?_
            refine oRun_ok 2 rfl ?_
            refine g_callV rfl rfl rfl rfl rfl mok_Row_become (by decide) (c_Row_become _ i _ _) ?_
            rintro r M' ⟨rfl, f1, f2, f3, f4⟩
            refine oRun_ok 1 rfl ?_
            exact g_iret rfl rfl rfl (oQC.of ((if_neg h4).trans ((if_neg h13).trans ((if_neg h21).trans ((if_neg (Int32.not_lt.mpr h40)).trans ((if_neg (Int32.not_lt.mpr h47)).trans (by rw [ei])))))) (hI.sheet' hi ho ⟨iLe.mp h47, iLe.mp h40⟩ f1 f2 f3 f4) (oRow_cls f4))
          · refine oRun_ok 1 rfl ?_
            exact g_iret rfl rfl rfl (oQC.same hI ((if_neg h4).trans ((if_neg h13).trans ((if_neg h21).trans ((if_neg (Int32.not_lt.mpr h40)).trans (if_pos (Int32.not_le.mp h47)))))))
        · refine oRun_ok 1 rfl ?_
          exact g_iret rfl rfl rfl (oQC.same hI ((if_neg h4).trans ((if_neg h13).trans ((if_neg h21).trans (if_pos (Int32.not_le.mp h40))))))
      · refine oRun_ok 3 rfl ?_
        refine g_aald i rfl rfl rfl (by omega) (show i = 0 * 0 + i by omega) ?_
        refine oRun_ok 2 rfl ?_
        refine g_callV rfl rfl rfl rfl rfl mok_Row_become (by decide) (c_Row_become _ i _ _) ?_
        rintro r M' ⟨rfl, f1, f2, f3, f4⟩
        refine oRun_ok 1 rfl ?_
        exact g_iret rfl rfl rfl (oQC.of ((if_neg h4).trans ((if_neg h13).trans ((if_pos h21).trans (by rw [ei, h21])))) (hI.sheet' hi ⟨by decide, by decide⟩ ⟨by decide, by decide⟩ f1 f2 f3 f4) (oRow_cls f4))
    · refine oRun_ok 1 rfl ?_
      exact g_iret rfl rfl rfl (oQC.same hI ((if_neg h4).trans (if_pos h13)))
theorem q_sheet (C M D : oM) (s o n : Int32) (hI : oI C D) (hD : oPs D M) : oCt 3 k_Mod_sheet [.inr (K_MOD, 0), .inl s, .inl o, .inl n] M (oQM (s_sheet D s o n) M) := by
  have ec : M 53 0 = D K_M_cells 0 := hD.1 _ (by decide)
  have tail : ∀ (i : Nat) (u : Int32), i < 4 → s = nI i → s_sheet D s o n = (u, D_sheet D i o u) → oG k_Mod_sheet 3 62 [some (.inr (K_MOD, 0)), some (.inl s), some (.inl o), some (.inl n), none] [.inl u, .inl s, .inr (K_M_sizes, 0)] (oUp M K_M_sorts 0 i o) (oQM (s_sheet D s o n) M) := by
    intro i u hi es hs
    subst es
    have loop : ∀ (q k : Nat) (M1 : oM), k + q = 24 → M1 K_M_cells 0 = f_zero (D K_M_cells 0) i k → M1 K_M_sizes 0 i = u → oFr (oKi K_M_cells 0) (oUp (oUp M K_M_sorts 0 i o) K_M_sizes 0 i u) M1 → oG k_Mod_sheet 3 66 [some (.inr (K_MOD, 0)), some (.inl (nI i)), some (.inl o), some (.inl n), some (.inl (nI k))] [] M1 (oQM (s_sheet D (nI i) o n) M) := by
      intro q
      induction q with
      | zero =>
        intro k M1 hk h1 h2 hF
        obtain rfl : k = 24 := by omega
        refine oRun_ok 2 rfl ?_
        refine g_ic_ge rfl (fun h70 => ?_) (fun h70 => ?_)
        · refine oRun_ok 3 rfl ?_
          refine g_iald i rfl rfl rfl (by omega) ?_
          refine g_iret rfl rfl rfl ?_
          rw [h2]
          have eM : M1 K_MOD 0 = M K_MOD 0 := (hF K_MOD 0 (fun q => absurd q.1 (by decide))).trans rfl
          refine oQM.of hs (oPs_row (k := K_M_cells) (by decide) (hD.up.up) (hF.mono (fun k i q => Or.inr q.1)) (by rw [eM]; rfl) (by rw [eM]; rfl) (by rw [eM]; rfl) h1) ?_
          exact ((oFr.rf.mdl (by decide)).mdl (by decide)).tr (hF.mono (fun k i q => by rw [q.1]; exact ⟨by decide, by decide⟩))
        · exact absurd (by decide) h70
      | succ q ih =>
        intro k M1 hk h1 h2 hF
        refine oRun_ok 2 rfl ?_
        refine g_ic_ge rfl (fun h70 => ?_) (fun h70 => ?_)
        · have h70 : nI 24 ≤ nI k := h70
          rw [nIle (by omega) (by omega)] at h70
          omega
        · refine oRun_ok 8 rfl ?_
          refine g_iast (24 * i + k) rfl rfl (by simp only [L24, nI_times, nI_plus]) (by omega) ?_
          refine oRun_ok 2 rfl ?_
          rw [nI_1]
          refine ih (k + 1) _ (by omega) ?_ h2 (hF.up ⟨rfl, rfl⟩)
          rw [oUp_upd, h1]
          funext x
          unfold f_zero
          by_cases z : x = 24 * i + k
          · rw [z, upd_eq, if_pos (by omega)]
          · rw [upd_ne z]
            by_cases z2 : 24 * i ≤ x ∧ x < 24 * i + k
            · rw [if_pos z2, if_pos (by omega)]
            · rw [if_neg z2, if_neg (by omega)]
    refine g_iast i rfl rfl rfl (by omega) ?_
    refine oRun_ok 2 rfl ?_
    refine loop 24 0 _ rfl ?_ oUp_self oFr.rf
    rw [oUp_k (by decide), oUp_k (by decide), show M K_M_cells 0 = _ from ec]
    funext x
    unfold f_zero
    rw [if_neg (by omega)]
  refine oCt.of (ls := [some (.inr (K_MOD, 0)), some (.inl s), some (.inl o), some (.inl n), none]) mok_Mod_sheet rfl rfl ?_
  refine oRun_ok 1 rfl ?_
  refine g_callS rfl rfl rfl rfl mok_Mod_isSheet (by decide) (c_Mod_isSheet _ _) ?_
  rintro r1 M1 ⟨rfl, e⟩; rw [e]
  refine g_if_eq rfl (fun h4 => ?_) (fun h4 => ?_)
  · refine oRun_ok 1 rfl ?_
    exact g_iret rfl rfl rfl (oQM.same hD (if_pos h4))
  · refine oRun_ok 3 rfl ?_
    refine g_callS rfl rfl rfl rfl mok_Mod_in (by decide) (c_Mod_in _ _ _ _) ?_
    rintro r10 M10 ⟨rfl, e⟩; rw [e]
    refine g_if_eq rfl (fun h13 => ?_) (fun h13 => ?_)
    · refine oRun_ok 1 rfl ?_
      exact g_iret rfl rfl rfl (oQM.same hD ((if_neg h4).trans (if_pos h13)))
    · have h4' := h4
      obtain ⟨i, hi, es, ei⟩ := sheet_in h4
      have ho := wiR (a := -1) (b := 1) h13
      refine oRun_ok 1 rfl ?_
      refine g_if_lt rfl (fun h17 => ?_) (fun h17 => ?_)
      · have o1 : o = -1 := by
          have z := iLt.mp h17
          rw [show (0 : Int32).toInt = 0 from rfl] at z
          have z2 := ho.1
          rw [show (-1 : Int32).toInt = -1 from rfl] at z2
          rw [iEq, show (-1 : Int32).toInt = -1 from rfl]
          omega
        refine oRun_ok 1 rfl ?_
        refine g_if_lt rfl (fun h30 => ?_) (fun h30 => ?_)
        · refine oRun_ok 4 rfl ?_
          refine g_iast i rfl rfl es (by omega) ?_
          refine oRun_ok 4 rfl ?_
          refine g_if_ge rfl (fun h54 => ?_) (fun h54 => ?_)
          · exact absurd h54 (Int32.not_le.mpr h17)
          · refine oRun_ok 2 rfl ?_
            refine tail i 0 hi es ((if_neg h4').trans ((if_neg h13).trans ((if_pos o1).trans (by rw [es, ei]))))
        · exact absurd h17 h30
      · have o1 : ¬ o = -1 := fun z => h17 (by rw [z]; decide)
        refine oRun_ok 2 rfl ?_
        refine g_ic_le rfl (fun h23 => ?_) (fun h23 => ?_)
        · refine oRun_ok 1 rfl ?_
          refine g_if_lt rfl (fun h30 => ?_) (fun h30 => ?_)
          · exact absurd h30 h17
          · refine oRun_ok 1 rfl ?_
            refine g_if_ge rfl (fun h34 => ?_) (fun h34 => ?_)
            · refine oRun_ok 4 rfl ?_
              refine g_iast i rfl rfl es (by omega) ?_
              refine oRun_ok 4 rfl ?_
              refine g_if_ge rfl (fun h54 => ?_) (fun h54 => ?_)
              · refine oRun_ok 1 rfl ?_
                refine tail i n hi es ((if_neg h4').trans ((if_neg h13).trans ((if_neg o1).trans ((if_neg (Int32.not_lt.mpr h23)).trans ((if_neg (Int32.not_lt.mpr h34)).trans (by rw [es, ei]))))))
              · exact absurd (Int32.not_lt.mp h17) h54
            · refine oRun_ok 1 rfl ?_
              exact g_iret rfl rfl rfl (oQM.same hD ((if_neg h4).trans ((if_neg h13).trans ((if_neg o1).trans ((if_neg (Int32.not_lt.mpr h23)).trans (if_pos (Int32.not_le.mp h34)))))))
        · have n24 : 24 < n := Int32.not_le.mp h23
          refine oRun_ok 1 rfl ?_
          exact g_iret rfl rfl rfl (oQM.same hD ((if_neg h4).trans ((if_neg h13).trans ((if_neg o1).trans (if_pos n24)))))

