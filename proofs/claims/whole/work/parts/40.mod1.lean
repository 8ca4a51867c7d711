/-! ===== Model: reads ===== -/
theorem nI_times (a b : Nat) : nI a * nI b = nI (a * b) := by
  apply Int32.toBitVec_inj.mp
  show BitVec.ofNat 32 a * BitVec.ofNat 32 b = BitVec.ofNat 32 (a * b)
  rw [BitVec.ofNat_mul]
theorem L1 : (1 : Int32) = nI 1 := rfl
theorem L2 : (2 : Int32) = nI 2 := rfl
theorem L3 : (3 : Int32) = nI 3 := rfl
theorem L4 : (4 : Int32) = nI 4 := rfl
theorem L5 : (5 : Int32) = nI 5 := rfl
theorem L20 : (20 : Int32) = nI 20 := rfl
theorem L24 : (24 : Int32) = nI 24 := rfl
theorem L30 : (30 : Int32) = nI 30 := rfl
theorem L35 : (35 : Int32) = nI 35 := rfl
theorem L96 : (96 : Int32) = nI 96 := rfl
theorem L160 : (160 : Int32) = nI 160 := rfl
theorem L188 : (188 : Int32) = nI 188 := rfl
theorem c_Mod_isStone (M : oM) (v : Int32) : oCt 1 k_Mod_isStone [.inr (K_MOD, 0), .inl v] M (fun r M' => r = some (f_Oak_isWithin v 0 (M K_M_now 0 1 - 1)) ∧ M' = M) := by
  refine oCt.of (ls := [some (.inr (K_MOD, 0)), some (.inl v)]) mok_Mod_isStone rfl rfl ?_
  refine oRun_ok 5 rfl ?_
  refine g_iald 1 rfl rfl rfl (by decide) ?_
  refine oRun_ok 2 rfl ?_
  refine g_callS rfl rfl rfl rfl mok_Mod_in (by decide) (c_Mod_in M _ _ _) ?_
  rintro r10 M10 ⟨rfl, e⟩; rw [e]
  exact g_iret rfl rfl (n_Mod_in _ _ _) ⟨rfl, rfl⟩
theorem c_Mod_isDeed (M : oM) (v : Int32) : oCt 1 k_Mod_isDeed [.inr (K_MOD, 0), .inl v] M (fun r M' => r = some (f_Oak_isWithin v 0 (M K_M_now 0 2 - 1)) ∧ M' = M) := by
  refine oCt.of (ls := [some (.inr (K_MOD, 0)), some (.inl v)]) mok_Mod_isDeed rfl rfl ?_
  refine oRun_ok 5 rfl ?_
  refine g_iald 2 rfl rfl rfl (by decide) ?_
  refine oRun_ok 2 rfl ?_
  refine g_callS rfl rfl rfl rfl mok_Mod_in (by decide) (c_Mod_in M _ _ _) ?_
  rintro r10 M10 ⟨rfl, e⟩; rw [e]
  exact g_iret rfl rfl (n_Mod_in _ _ _) ⟨rfl, rfl⟩
theorem c_Mod_of (M : oM) (d w : Nat) (hd : d < 4) (hw : w < 35) : oCt 0 k_Mod_of [.inr (K_MOD, 0), .inl (nI d), .inl (nI w)] M (fun r M' => r = some (M K_M_now 0 (20 + 35 * d + w)) ∧ M' = M) := by
  refine oCt.of (ls := [some (.inr (K_MOD, 0)), some (.inl (nI d)), some (.inl (nI w))]) mok_Mod_of rfl rfl ?_
  refine oRun_ok 9 rfl ?_
  refine g_iald (20 + 35 * d + w) rfl rfl (by simp only [L20, L35, nI_times, nI_plus]) (by omega) ?_
  exact g_iret rfl rfl rfl ⟨rfl, rfl⟩
theorem c_Mod_callOf (M : oM) (d j w : Nat) (hd : d < 4) (hj : j < 10) (hw : w < 3) : oCt 0 k_Mod_callOf [.inr (K_MOD, 0), .inl (nI d), .inl (nI j), .inl (nI w)] M (fun r M' => r = some (M K_M_now 0 (20 + 35 * d + 5 + 3 * j + w)) ∧ M' = M) := by
  refine oCt.of (ls := [some (.inr (K_MOD, 0)), some (.inl (nI d)), some (.inl (nI j)), some (.inl (nI w))]) mok_Mod_callOf rfl rfl ?_
  refine oRun_ok 15 rfl ?_
  refine g_iald (20 + 35 * d + 5 + 3 * j + w) rfl rfl (by simp only [L20, L35, L5, L3, nI_times, nI_plus]) (by omega) ?_
  exact g_iret rfl rfl rfl ⟨rfl, rfl⟩
/-- the one that counts, as the model tells it -/
theorem c_Mod_counts (M : oM) (key : Int32) (hN : oNOk (M K_M_now 0)) : oCt 0 k_Mod_counts [.inr (K_MOD, 0), .inl key] M (fun r M' => r = some (oFst (oLast (M K_M_now 0) key (cT (M K_M_now 0)))) ∧ M' = M) := by
  obtain ⟨hT, t14⟩ := oNT hN
  generalize hn : M K_M_now 0 = N at hN hT t14 ⊢
  refine oCt.of (ls := [some (.inr (K_MOD, 0)), some (.inl key), none]) mok_Mod_counts rfl rfl ?_
  have loop : ∀ (t : Nat), t ≤ 14 → oLast N key (cT N) = oLast N key t → oG k_Mod_counts 0 9 [some (.inr (K_MOD, 0)), some (.inl key), some (.inl (nI t - 1))] [] M (fun r M' => r = some (oFst (oLast N key (cT N))) ∧ M' = M) := by
    intro t
    induction t with
    | zero =>
      intro _ he
      refine oRun_ok 1 rfl ?_
      refine g_if_lt rfl (fun h10 => ?_) (fun h10 => absurd (by decide) h10)
      refine oRun_ok 1 rfl ?_
      exact g_iret rfl rfl rfl ⟨by rw [he]; rfl, rfl⟩
    | succ t ih =>
      intro ht he
      rw [nI_pred]
      refine oRun_ok 1 rfl ?_
      refine g_if_lt rfl (fun h10 => absurd h10 (nI_pos (by omega))) (fun h10 => ?_)
      refine oRun_ok 7 rfl ?_
      refine g_iald (160 + 2 * t) rfl rfl (by simp only [L160, L2, nI_times, nI_plus]) (by omega) ?_
      rw [show M 32 0 = N from hn]
      refine oRun_ok 3 rfl ?_
      rw [show oLast N key (t + 1) = if tK N t = key then some t else oLast N key t from rfl] at he
      refine g_ic_ne rfl (fun h30 => ?_) (fun h30 => ?_)
      · have h30 : ¬ tK N t = key := h30
        refine oRun_ok 2 rfl ?_
        rw [if_neg h30] at he
        rw [← Int32.sub_eq_add_neg]
        exact ih (by omega) he
      · have h30 : tK N t = key := h30
        refine oRun_ok 1 rfl ?_
        rw [if_pos h30] at he
        exact g_iret rfl rfl rfl ⟨by rw [he]; rfl, rfl⟩
  refine oRun_ok 3 rfl ?_
  refine g_iald 3 rfl rfl rfl (by decide) ?_
  rw [show M 32 0 = N from hn, hT]
  refine oRun_ok 3 rfl ?_
  exact loop (cT N) t14 rfl
theorem c_Mod_isCall (M : oM) (d c : Int32) (hN : oNOk (M K_M_now 0)) : oCt 2 k_Mod_isCall [.inr (K_MOD, 0), .inl d, .inl c] M (fun r M' => r = some (if f_Oak_isWithin d 0 (M K_M_now 0 2 - 1) = 0 then 0 else if f_Oak_isWithin c 0 (M K_M_now 0 (20 + 35 * d.toNatClampNeg + 4) - 1) = 0 then 0 else 1) ∧ M' = M) := by
  obtain ⟨hD, d4⟩ := oND hN
  refine oCt.of (ls := [some (.inr (K_MOD, 0)), some (.inl d), some (.inl c)]) mok_Mod_isCall rfl rfl ?_
  refine oRun_ok 2 rfl ?_
  refine g_callV rfl rfl rfl rfl rfl mok_Mod_isDeed (by decide) (c_Mod_isDeed M d) ?_
  rintro r2 M2 ⟨rfl, e⟩; rw [e]
  refine g_if_eq rfl (fun h5 => ?_) (fun h5 => ?_)
  · refine oRun_ok 1 rfl ?_
    exact g_iret rfl rfl rfl ⟨by rw [if_pos h5], rfl⟩
  · have h5' := h5
    rw [hD] at h5
    obtain ⟨j, hj, rfl⟩ := wiI (by omega) h5
    rw [if_neg h5', nIc (by omega)]
    refine oRun_ok 5 rfl ?_
    refine g_callV rfl rfl rfl rfl rfl mok_Mod_of (by decide) (c_Mod_of M j 4 (by omega) (by decide)) ?_
    rintro r13 M13 ⟨rfl, e⟩; rw [e]
    refine oRun_ok 2 rfl ?_
    refine g_callS rfl rfl rfl rfl mok_Mod_in (by decide) (c_Mod_in M _ _ _) ?_
    rintro r18 M18 ⟨rfl, e⟩; rw [e]
    refine g_if_eq rfl (fun h21 => ?_) (fun h21 => ?_)
    · refine oRun_ok 1 rfl ?_
      exact g_iret rfl rfl rfl ⟨by rw [if_pos (show f_Oak_isWithin c 0 (M K_M_now 0 (20 + 35 * j + 4) - 1) = 0 from h21)], rfl⟩
    · refine oRun_ok 2 rfl ?_
      exact g_iret rfl rfl rfl ⟨by rw [if_neg (show ¬ f_Oak_isWithin c 0 (M K_M_now 0 (20 + 35 * j + 4) - 1) = 0 from h21)], rfl⟩
set_option maxRecDepth 4000 in
theorem c_Mod_worksOut (M : oM) (N g : Nat → Int32) (t : Nat) (hn : M K_M_now 0 = N) (hT : oTOk N t) (ht : t < 14) (hg : ∀ j : Nat, (j : Int) ≤ (tK N t).toInt → M K_M_facts 0 j = g j) :
    oCt 1 k_Mod_worksOut [.inr (K_MOD, 0), .inl (nI t)] M (fun r M' => r = some (oVal g N t) ∧ oFr (oKs K_M_stack) M M') := by
  obtain ⟨hT1, hT2, hT3, hT4⟩ := hT
  have hkr : 0 ≤ (tK N t).toInt ∧ (tK N t).toInt ≤ 2 := by
    have e : (tK N t).toInt = (N (160 + 2 * t)).toInt.tdiv 1000 := iDiv (Or.inl (by have := hT1.1; omega))
    rw [e, Int.tdiv_eq_ediv_of_nonneg hT1.1]
    have := hT1.2
    have := hT1.1
    omega
  have hmany : oRem (N (160 + 2 * t)) 1000 = nI (tN N t) := by
    have e := nI_ofInt hT1.1
    unfold tN
    generalize N (160 + 2 * t) = v at e hT1 ⊢
    rw [e, show (1000 : Int32) = nI 1000 from rfl, nIrem (by have := hT1.2; omega) (by decide) (by decide), nIc (by omega)]
  refine oCt.of (ls := [some (.inr (K_MOD, 0)), some (.inl (nI t)), none, none, none, none]) mok_Mod_worksOut rfl rfl ?_
  refine oRun_ok 9 rfl ?_
  refine g_iald (160 + 2 * t) rfl rfl (by simp only [L160, L2, nI_times, nI_plus]) (by omega) ?_
  rw [show M 32 0 = N from hn]
  refine oRun_ok 5 rfl ?_
  rw [hmany]
  have loop : ∀ (q k h : Nat) (M1 : oM) (x5 : Option oV), k + q = tN N t → oDp (tC N t) k = some h → (∀ j, j < h → M1 K_M_stack 0 j = (oEv g (tC N t) k).2 j) → oFr (oKs K_M_stack) M M1 → oG k_Mod_worksOut 1 22 [some (.inr (K_MOD, 0)), some (.inl (nI t)), some (.inl (nI h)), some (.inl (nI (tN N t))), some (.inl (nI k)), x5] [] M1 (fun r M' => r = some (oVal g N t) ∧ oFr (oKs K_M_stack) M M') := by
    intro q
    induction q with
    | zero =>
      intro k h M1 x5 hk hd ha hf
      have hk : k = tN N t := by omega
      subst hk
      have hh : h = 1 := Option.some.inj (hd.symm.trans hT3)
      subst hh
      refine oRun_ok 2 rfl ?_
      refine g_ic_ge rfl (fun _ => ?_) (fun h => absurd (Int32.le_refl _) h)
      refine oRun_ok 3 rfl ?_
      refine g_iald 0 rfl rfl rfl (by decide) ?_
      exact g_iret rfl rfl rfl ⟨by rw [ha 0 (by decide)]; rfl, hf⟩
    | succ q ih =>
      intro k h M1 x5 hk hd ha hf
      obtain ⟨hE, hhk⟩ := oDp_h g k h hd
      obtain ⟨h', hd'⟩ := oDp_back (k := k + 1) hT3 (by omega)
      have hd' : oDp (tC N t) (k + 1) = some h' := hd'
      have eN : M1 32 0 = N := (hf K_M_now 0 (show ¬ K_M_now = K_M_stack by decide)).trans hn
      have eF : M1 50 0 = M K_M_facts 0 := hf K_M_facts 0 (show ¬ K_M_facts = K_M_stack by decide)
      have hck := hT4 k (by omega)
      refine oRun_ok 2 rfl ?_
      refine g_ic_ge rfl (fun h25 => ?_) (fun _ => ?_)
      · rw [nIle (by omega) (by omega)] at h25
        omega
      refine oRun_ok 9 rfl ?_
      refine g_iald (188 + 96 * t + k) rfl rfl (by simp only [L188, L96, nI_times, nI_plus]) (by omega) ?_
      rw [eN]
      refine oRun_ok 2 rfl ?_
      have fin : ∀ (M2 : oM) (v : Int32), oDp (tC N t) (k + 1) = some h' → (∀ j, j < h' → M2 K_M_stack 0 j = (oEv g (tC N t) (k + 1)).2 j) → oFr (oKs K_M_stack) M M2 → oG k_Mod_worksOut 1 151 [some (.inr (K_MOD, 0)), some (.inl (nI t)), some (.inl (nI h')), some (.inl (nI (tN N t))), some (.inl (nI k)), some (.inl v)] [] M2 (fun r M' => r = some (oVal g N t) ∧ oFr (oKs K_M_stack) M M') := by
        intro M2 v q1 q2 q3
        refine oRun_ok 2 rfl ?_
        rw [nI_1]
        exact ih (k + 1) h' M2 _ (by omega) q1 q2 q3
      refine g_if_lt rfl (fun h48 => ?_) (fun h48 => ?_)
      · have hneg : ¬ 0 ≤ tC N t k := fun q => Int32.lt_irrefl (Int32.lt_of_lt_of_le h48 q)
        refine oRun_ok 2 rfl ?_
        refine g_ic_ne rfl (fun h91 => ?_) (fun h91 => ?_)
        · have h91 : ¬ tC N t k = -10 := h91
          obtain ⟨z1, rfl⟩ := oDp_two hd hneg h91 hd'
          have hev := oEv_two (g := g) hneg h91
          obtain ⟨m, rfl⟩ : ∃ m, h = m + 2 := ⟨h - 2, by omega⟩
          have em1 : nI (m + 2) + -1 = nI (m + 1) := by rw [← Int32.sub_eq_add_neg]; exact nIsub (a := m + 2) (b := 1) (by omega)
          have em2 : nI (m + 1) - 1 = nI m := nIsub (a := m + 1) (b := 1) (by omega)
          refine oRun_ok 12 rfl ?_
          rw [em1, em2]
          refine g_iald m rfl rfl rfl (by omega) ?_
          refine oRun_ok 3 rfl ?_
          refine g_iald (m + 1) rfl rfl rfl (by omega) ?_
          refine g_callS rfl rfl rfl rfl mok_Mod_two (by decide) (c_Mod_two M1 _ _ _) ?_
          rintro r147 M147 ⟨rfl, e⟩; rw [e]
          refine g_iast m rfl rfl rfl (by omega) ?_
          refine fin _ _ hd' (fun j hj => ?_) (hf.up rfl)
          rw [hev, hE]
          show oUp M1 49 0 m _ 49 0 j = upd _ m _ j
          by_cases z : j = m
          · subst z
            rw [oUp_self, upd_eq, show M1 49 0 j = _ from ha j (by omega), show M1 49 0 (j + 1) = _ from ha (j + 1) (by omega)]
            rfl
          · rw [oUp_j z, upd_ne z]
            exact ha j (by omega)
        · have h91 : tC N t k = -10 := h91
          obtain ⟨z1, rfl⟩ := oDp_not hd h91 hd'
          have hev := oEv_not (g := g) h91
          obtain ⟨m, rfl⟩ : ∃ m, h' = m + 1 := ⟨h' - 1, by omega⟩
          have em2 : nI (m + 1) - 1 = nI m := nIsub (a := m + 1) (b := 1) (by omega)
          refine oRun_ok 10 rfl ?_
          rw [em2]
          refine g_iald m rfl rfl rfl (by omega) ?_
          have put : ∀ v, v = (if M1 49 0 m = 0 then (1 : Int32) else 0) → oG k_Mod_worksOut 1 117 [some (.inr (K_MOD, 0)), some (.inl (nI t)), some (.inl (nI (m + 1))), some (.inl (nI (tN N t))), some (.inl (nI k)), some (.inl (N (188 + 96 * t + k)))] [.inl v, .inl (nI m), .inr (K_M_stack, 0)] M1 (fun r M' => r = some (oVal g N t) ∧ oFr (oKs K_M_stack) M M') := by
            rintro v rfl
            refine g_iast m rfl rfl rfl (by omega) ?_
            refine oRun_ok 1 rfl ?_
            refine fin _ _ hd' (fun j hj => ?_) (hf.up rfl)
            rw [hev, hE]
            show oUp M1 49 0 m _ 49 0 j = upd _ m _ j
            by_cases z : j = m
            · subst z
              rw [oUp_self, upd_eq, show M1 49 0 j = _ from ha j (by omega)]
              rfl
            · rw [oUp_j z, upd_ne z]
              exact ha j (by omega)
          refine g_if_ne rfl (fun h109 => ?_) (fun h109 => ?_)
          · refine oRun_ok 1 rfl ?_
            exact put 0 (by rw [if_neg h109])
          · refine oRun_ok 2 rfl ?_
            exact put 1 (by
              have h109 : M1 49 0 m = 0 := by simpa using h109
              rw [if_pos h109])
      · have hpos : 0 ≤ tC N t k := Int32.not_lt.mp h48
        have hev := oEv_pos (g := g) hpos
        have ehh := oDp_pos hd hpos
        rw [hd'] at ehh
        cases ehh
        have put : ∀ v, v = (if tC N t k < 10000 then tC N t k else g (tC N t k - 10000).toNatClampNeg) → oG k_Mod_worksOut 1 80 [some (.inr (K_MOD, 0)), some (.inl (nI t)), some (.inl (nI h)), some (.inl (nI (tN N t))), some (.inl (nI k)), some (.inl (N (188 + 96 * t + k)))] [.inl v, .inl (nI h), .inr (K_M_stack, 0)] M1 (fun r M' => r = some (oVal g N t) ∧ oFr (oKs K_M_stack) M M') := by
          rintro v rfl
          refine g_iast h rfl rfl rfl (by omega) ?_
          refine oRun_ok 2 rfl ?_
          rw [nI_1]
          refine fin _ _ hd' (fun j hj => ?_) (hf.up rfl)
          rw [hev, hE]
          show oUp M1 49 0 h _ 49 0 j = upd _ h _ j
          by_cases z : j = h
          · subst z
            rw [oUp_self, upd_eq]
          · rw [oUp_j z, upd_ne z]
            exact ha j (by omega)
        refine oRun_ok 5 rfl ?_
        refine g_ic_ge rfl (fun h61 => ?_) (fun h61 => ?_)
        · have h61' := iLe.mp h61
          have hc2 : (tC N t k).toInt ≤ 10000 + (tK N t).toInt := hck.2
          have t10 : (10000 : Int32).toInt = 10000 := rfl
          rw [t10] at h61'
          have e1 : (tC N t k - 10000).toInt = (tC N t k).toInt - 10000 := by
            have := iRng (tC N t k)
            have h0 : 10000 ≤ (tC N t k).toInt := h61'
            rw [iSub (by rw [t10]; omega), t10]
          have h0 : 10000 ≤ (tC N t k).toInt := h61'
          obtain ⟨j, hj, ej⟩ := nI_ex (v := tC N t k - 10000) (n := 4) (by omega) (by omega)
          refine oRun_ok 5 rfl ?_
          refine g_iald j rfl rfl ej (by omega) ?_
          refine put _ ?_
          have hnl : ¬ tC N t k < 10000 := fun q => Int32.lt_irrefl (Int32.lt_of_lt_of_le q h61)
          rw [if_neg hnl, ej, nIc (by omega), eF]
          have e2 := e1
          rw [ej, nIt (by omega)] at e2
          exact hg j (by omega)
        · have h61 : tC N t k < 10000 := Int32.not_le.mp h61
          refine oRun_ok 2 rfl ?_
          exact put _ (by rw [if_pos h61]; rfl)
  exact loop (tN N t) 0 0 M _ (by omega) rfl (fun j hj => absurd hj (by omega)) oFr.rf
/-- what the model's laws write -/
def oMl : Nat → Nat → Prop := fun k _ => k = K_M_stack ∨ k = K_M_facts
theorem oLast_ok {N : Nat → Int32} {key : Int32} {t : Nat} (hN : oNOk N) (h : oLast N key (cT N) = some t) : oTOk N t ∧ t < 14 ∧ tK N t = key := by
  obtain ⟨-, t14⟩ := oNT hN
  obtain ⟨h1, h2⟩ := oLast_lt h
  exact ⟨hN.2.2.2.2.2 t h1, by omega, h2⟩
theorem c_Mod_needleOf (M : oM) (N : Nat → Int32) (d : Nat) (hn : M K_M_now 0 = N) (hN : oNOk N) (hd : d < cD N) : oCt 2 k_Mod_needleOf [.inr (K_MOD, 0), .inl (nI d)] M (fun r M' => r = some (sNd N d) ∧ oFr oMl M M') := by
  obtain ⟨-, d4⟩ := oND hN
  refine oCt.of (ls := [some (.inr (K_MOD, 0)), some (.inl (nI d)), none]) mok_Mod_needleOf rfl rfl ?_
  refine oRun_ok 2 rfl ?_
  refine g_callV rfl rfl rfl rfl rfl mok_Mod_counts (by decide) (c_Mod_counts M 0 (by rw [hn]; exact hN)) ?_
  rintro r2 M2 ⟨rfl, e⟩; rw [e, hn]
  refine oRun_ok 7 rfl ?_
  refine g_callV rfl rfl rfl rfl rfl mok_Mod_of (by decide) (c_Mod_of M d 2 (by omega) (by decide)) ?_
  rintro r14 M14 ⟨rfl, e⟩; rw [e, hn]
  refine g_iast 0 rfl rfl rfl (by decide) ?_
  refine oRun_ok 1 rfl ?_
  have hf : ∀ v, oFr oMl M (oUp M 50 0 0 v) := fun v => oFr.rf.up (Or.inr rfl)
  cases hz : oLast N 0 (cT N) with
  | none =>
    have hs : sNd N d = 0 := by unfold sNd; rw [hz]
    refine g_if_ge rfl (fun h => absurd h (by decide)) (fun _ => ?_)
    refine oRun_ok 2 rfl ?_
    exact g_iret rfl rfl rfl ⟨by rw [hs], hf _⟩
  | some t =>
    obtain ⟨hT, t14, hk⟩ := oLast_ok hN hz
    have hs : sNd N d = oRem (oRem (oVal (gN N d) N t) 8 + 8) 8 := by unfold sNd; rw [hz]
    refine g_if_ge rfl (fun _ => ?_) (fun h => absurd (Int32.not_lt.mp (nI_pos (by omega))) h)
    refine oRun_ok 2 rfl ?_
    refine g_callV rfl rfl rfl rfl rfl mok_Mod_worksOut (by decide) (c_Mod_worksOut _ N (gN N d) t (by rw [oUp_k (by decide)]; exact hn) hT t14 (fun j hj => ?_)) ?_
    · rw [hk, show (0 : Int32).toInt = 0 from rfl] at hj
      have hj : j = 0 := by omega
      subst hj
      exact oUp_self
    rintro r28 M28 ⟨rfl, f28⟩
    refine oRun_ok 6 rfl ?_
    exact g_iret rfl rfl rfl ⟨by rw [hs], (hf _).tr (f28.mono (fun k i q => Or.inl q))⟩
theorem c_Mod_chainOf (M : oM) (N : Nat → Int32) (d : Nat) (hn : M K_M_now 0 = N) (hN : oNOk N) (hd : d < cD N) : oCt 2 k_Mod_chainOf [.inr (K_MOD, 0), .inl (nI d)] M (fun r M' => r = some (sCh N d) ∧ oFr oMl M M') := by
  obtain ⟨-, d4⟩ := oND hN
  refine oCt.of (ls := [some (.inr (K_MOD, 0)), some (.inl (nI d)), none]) mok_Mod_chainOf rfl rfl ?_
  refine oRun_ok 2 rfl ?_
  refine g_callV rfl rfl rfl rfl rfl mok_Mod_counts (by decide) (c_Mod_counts M 1 (by rw [hn]; exact hN)) ?_
  rintro r2 M2 ⟨rfl, e⟩; rw [e, hn]
  refine oRun_ok 7 rfl ?_
  refine g_callV rfl rfl rfl rfl rfl mok_Mod_of (by decide) (c_Mod_of M d 2 (by omega) (by decide)) ?_
  rintro r14 M14 ⟨rfl, e⟩; rw [e, hn]
  refine g_iast 0 rfl rfl rfl (by decide) ?_
  refine oRun_ok 6 rfl ?_
  refine g_callV rfl rfl rfl rfl rfl mok_Mod_of (by decide) (c_Mod_of _ d 3 (by omega) (by decide)) ?_
  rintro r26 M26 ⟨rfl, e⟩; rw [e, oUp_k (by decide), hn]
  refine g_iast 1 rfl rfl rfl (by decide) ?_
  have en : (oUp (oUp M 50 0 0 (N (20 + 35 * d + 2))) 50 0 1 (N (20 + 35 * d + 3))) K_M_now 0 = N := by
    rw [oUp_k (by decide), oUp_k (by decide)]
    exact hn
  have hf : oFr oMl M (oUp (oUp M 50 0 0 (N (20 + 35 * d + 2))) 50 0 1 (N (20 + 35 * d + 3))) := (oFr.rf.up (Or.inr rfl)).up (Or.inr rfl)
  have hg : ∀ j : Nat, j ≤ 1 → (oUp (oUp M 50 0 0 (N (20 + 35 * d + 2))) 50 0 1 (N (20 + 35 * d + 3))) K_M_facts 0 j = gC N d j := by
    intro j hj
    by_cases z : j = 0
    · subst z
      exact (oUp_j (by decide)).trans oUp_self
    · have hj : j = 1 := by omega
      subst hj
      exact oUp_self
  refine oRun_ok 1 rfl ?_
  generalize oUp (oUp M 50 0 0 (N (20 + 35 * d + 2))) 50 0 1 (N (20 + 35 * d + 3)) = M1 at en hf hg ⊢
  cases hz : oLast N 1 (cT N) with
  | none =>
    have hs : sCh N d = N (20 + 35 * d + 3) := by unfold sCh; rw [hz]
    refine g_if_ge rfl (fun h => absurd h (by decide)) (fun _ => ?_)
    refine oRun_ok 3 rfl ?_
    refine g_callV rfl rfl rfl rfl rfl mok_Mod_of (by decide) (c_Mod_of M1 d 3 (by omega) (by decide)) ?_
    rintro r37 M37 ⟨rfl, e⟩; rw [e, en]
    refine oRun_ok 1 rfl ?_
    exact g_iret rfl rfl rfl ⟨by rw [hs], hf⟩
  | some t =>
    obtain ⟨hT, t14, hk⟩ := oLast_ok hN hz
    have hs : sCh N d = f_Mod_within (oVal (gC N d) N t) (-9) 9 := by unfold sCh; rw [hz]
    refine g_if_ge rfl (fun _ => ?_) (fun h => absurd (Int32.not_lt.mp (nI_pos (by omega))) h)
    refine oRun_ok 2 rfl ?_
    refine g_callV rfl rfl rfl rfl rfl mok_Mod_worksOut (by decide) (c_Mod_worksOut M1 N (gC N d) t en hT t14 (fun j hj => ?_)) ?_
    · rw [hk, show (1 : Int32).toInt = 1 from rfl] at hj
      exact hg j (by omega)
    rintro r45 M45 ⟨rfl, f45⟩
    refine oRun_ok 2 rfl ?_
    refine g_callS rfl rfl rfl rfl mok_Mod_within (by decide) (c_Mod_within M45 _ _ _) ?_
    rintro r52 M52 ⟨rfl, e⟩; rw [e]
    exact g_iret rfl rfl rfl ⟨by rw [hs], hf.tr (f45.mono (fun k i q => Or.inl q))⟩
theorem c_Mod_rankOf (M : oM) (N : Nat → Int32) (d : Nat) (hn : M K_M_now 0 = N) (hN : oNOk N) (hd : d < cD N) : oCt 2 k_Mod_rankOf [.inr (K_MOD, 0), .inl (nI d)] M (fun r M' => r = some (sRk N d) ∧ oFr oMl M M') := by
  obtain ⟨-, d4⟩ := oND hN
  refine oCt.of (ls := [some (.inr (K_MOD, 0)), some (.inl (nI d)), none]) mok_Mod_rankOf rfl rfl ?_
  refine oRun_ok 2 rfl ?_
  refine g_callV rfl rfl rfl rfl rfl mok_Mod_counts (by decide) (c_Mod_counts M 2 (by rw [hn]; exact hN)) ?_
  rintro r2 M2 ⟨rfl, e⟩; rw [e, hn]
  refine oRun_ok 7 rfl ?_
  refine g_callV rfl rfl rfl rfl rfl mok_Mod_of (by decide) (c_Mod_of M d 2 (by omega) (by decide)) ?_
  rintro r14 M14 ⟨rfl, e⟩; rw [e, hn]
  refine g_iast 0 rfl rfl rfl (by decide) ?_
  refine oRun_ok 4 rfl ?_
  refine g_iast 1 rfl rfl rfl (by decide) ?_
  refine oRun_ok 6 rfl ?_
  refine g_callV rfl rfl rfl rfl rfl mok_Mod_of (by decide) (c_Mod_of _ d 4 (by omega) (by decide)) ?_
  rintro r33 M33 ⟨rfl, e⟩; rw [e, oUp_k (by decide), oUp_k (by decide), hn]
  refine g_iast 2 rfl rfl rfl (by decide) ?_
  have en : (oUp (oUp (oUp M 50 0 0 (N (20 + 35 * d + 2))) 50 0 1 (nI d)) 50 0 2 (N (20 + 35 * d + 4))) K_M_now 0 = N := by
    rw [oUp_k (by decide), oUp_k (by decide), oUp_k (by decide)]
    exact hn
  have hf : oFr oMl M (oUp (oUp (oUp M 50 0 0 (N (20 + 35 * d + 2))) 50 0 1 (nI d)) 50 0 2 (N (20 + 35 * d + 4))) := ((oFr.rf.up (Or.inr rfl)).up (Or.inr rfl)).up (Or.inr rfl)
  have hg : ∀ j : Nat, j ≤ 2 → (oUp (oUp (oUp M 50 0 0 (N (20 + 35 * d + 2))) 50 0 1 (nI d)) 50 0 2 (N (20 + 35 * d + 4))) K_M_facts 0 j = gF N d j := by
    intro j hj
    by_cases z : j = 0
    · subst z
      exact (oUp_j (by decide)).trans ((oUp_j (by decide)).trans oUp_self)
    · by_cases z1 : j = 1
      · subst z1
        exact (oUp_j (by decide)).trans oUp_self
      · have hj : j = 2 := by omega
        subst hj
        exact oUp_self
  refine oRun_ok 1 rfl ?_
  generalize oUp (oUp (oUp M 50 0 0 (N (20 + 35 * d + 2))) 50 0 1 (nI d)) 50 0 2 (N (20 + 35 * d + 4)) = M1 at en hf hg ⊢
  cases hz : oLast N 2 (cT N) with
  | none =>
    have hs : sRk N d = N (20 + 35 * d + 2) := by unfold sRk; rw [hz]
    refine g_if_ge rfl (fun h => absurd h (by decide)) (fun _ => ?_)
    refine oRun_ok 3 rfl ?_
    refine g_callV rfl rfl rfl rfl rfl mok_Mod_of (by decide) (c_Mod_of M1 d 2 (by omega) (by decide)) ?_
    rintro r44 M44 ⟨rfl, e⟩; rw [e, en]
    refine oRun_ok 1 rfl ?_
    exact g_iret rfl rfl rfl ⟨by rw [hs], hf⟩
  | some t =>
    obtain ⟨hT, t14, hk⟩ := oLast_ok hN hz
    have hs : sRk N d = oVal (gF N d) N t := by unfold sRk; rw [hz]
    refine g_if_ge rfl (fun _ => ?_) (fun h => absurd (Int32.not_lt.mp (nI_pos (by omega))) h)
    refine oRun_ok 2 rfl ?_
    refine g_callV rfl rfl rfl rfl rfl mok_Mod_worksOut (by decide) (c_Mod_worksOut M1 N (gF N d) t en hT t14 (fun j hj => ?_)) ?_
    · rw [hk, show (2 : Int32).toInt = 2 from rfl] at hj
      exact hg j (by omega)
    rintro r52 M52 ⟨rfl, f52⟩
    exact g_iret rfl rfl rfl ⟨by rw [hs], hf.tr (f52.mono (fun k i q => Or.inl q))⟩
