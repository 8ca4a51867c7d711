/-! ===== call, told, as, turns ===== -/
def sHC (N : Nat → Int32) (d c : Int32) : Int32 := if f_Oak_isWithin d 0 (N 2 - 1) = 0 then 0 else if f_Oak_isWithin c 0 (N (20 + 35 * d.toNatClampNeg + 4) - 1) = 0 then 0 else 1
theorem oHC_eq {C D : oM} (hI : oI C D) (d c : Int32) : oHasCall C 0 d c = sHC (D K_M_now 0) d c := by
  unfold oHasCall sHC
  rw [hI.dd]
  by_cases h : f_Oak_isWithin d 0 (D K_M_now 0 2 - 1) = 0
  · rw [if_pos h, if_pos h]
  · obtain ⟨j, hj, hj4, rfl, ej⟩ := oHasD hI h
    rw [if_neg h, if_neg h, ej, (hI.rd hj).1 4 (by decide)]
theorem oHC_ok {C D : oM} (hI : oI C D) {d c : Int32} (h : ¬ sHC (D K_M_now 0) d c = 0) : ∃ j k, j < cD (D K_M_now 0) ∧ j < 4 ∧ k < cC (D K_M_now 0) j ∧ k < 10 ∧ d = nI j ∧ c = nI k ∧ (nI j).toNatClampNeg = j ∧ (nI k).toNatClampNeg = k := by
  unfold sHC at h
  by_cases h1 : f_Oak_isWithin d 0 (D K_M_now 0 2 - 1) = 0
  · exact absurd (if_pos h1) h
  · rw [if_neg h1] at h
    obtain ⟨j, hj, hj4, rfl, ej⟩ := oHasD hI h1
    rw [ej] at h
    by_cases h2 : f_Oak_isWithin c 0 (D K_M_now 0 (20 + 35 * j + 4) - 1) = 0
    · exact absurd (if_pos h2) h
    · obtain ⟨hC, c10⟩ := oNC (hI.dok hj)
      rw [hC] at h2
      obtain ⟨k, hk, e⟩ := wiI (by omega) h2
      exact ⟨j, k, hj, hj4, hk, by omega, rfl, e, ej, nIc (by omega)⟩
/-- a deed's calls may change, its first numbers not -/
theorem oDOk_c {N N' : Nat → Int32} {d : Nat} (h : oDOk N d) (h0 : ∀ w, w < 4 → N' (20 + 35 * d + w) = N (20 + 35 * d + w)) (hc : inR (N' (20 + 35 * d + 4)) 0 10) (hj : ∀ j, j < cC N' d → inR (N' (20 + 35 * d + 5 + 3 * j)) 0 5 ∧ inR (N' (20 + 35 * d + 5 + 3 * j + 1)) 0 7 ∧ inR (N' (20 + 35 * d + 5 + 3 * j + 2)) 1 20) : oDOk N' d := by
  have e0 : N' (20 + 35 * d) = N (20 + 35 * d) := h0 0 (by decide)
  refine ⟨by rw [e0]; exact h.1, by rw [h0 1 (by decide)]; exact h.2.1, by rw [h0 2 (by decide)]; exact h.2.2.1, by rw [h0 3 (by decide)]; exact h.2.2.2.1, hc, hj⟩
def n_add (N : Nat → Int32) (d : Nat) (a b c : Int32) : Nat → Int32 := upd (upd (upd (upd N (20 + 35 * d + 5 + 3 * cC N d) a) (20 + 35 * d + 5 + 3 * cC N d + 1) b) (20 + 35 * d + 5 + 3 * cC N d + 2) c) (20 + 35 * d + 4) (nI (cC N d + 1))
theorem n_add_s {N : Nat → Int32} {d : Nat} {a b c : Int32} (hc : cC N d < 10) : ∀ j, ¬ (20 + 35 * d ≤ j ∧ j < 55 + 35 * d) → n_add N d a b c j = N j := by
  intro j hj
  unfold n_add
  repeat (first | rw [upd_ne (by omega)] | rw [upd_eq])
theorem n_add_c {N : Nat → Int32} {d : Nat} {a b c : Int32} (hc : cC N d < 10) : cC (n_add N d a b c) d = cC N d + 1 := by
  rw [show cC (n_add N d a b c) d = (n_add N d a b c (20 + 35 * d + 4)).toNatClampNeg from rfl, show n_add N d a b c (20 + 35 * d + 4) = nI (cC N d + 1) from upd_eq, nIc (by omega)]
theorem oDOk_add {N : Nat → Int32} {d : Nat} {a b c : Int32} (h : oDOk N d) (hc : cC N d < 10) (ha : inR a 0 5) (hb : inR b 0 7) (hl : inR c 1 20) : oDOk (n_add N d a b c) d := by
  refine oDOk_c h (fun w hw => ?_) ?_ (fun j hj => ?_)
  · unfold n_add
    repeat (first | rw [upd_ne (by omega)] | rw [upd_eq])
  · rw [show n_add N d a b c (20 + 35 * d + 4) = nI (cC N d + 1) from upd_eq]
    exact inR_n (m := 10) (by omega) (by decide)
  · rw [n_add_c hc] at hj
    unfold n_add
    by_cases z : j = cC N d
    · subst z
      repeat (first | rw [upd_ne (by omega)] | rw [upd_eq])
      exact ⟨ha, hb, hl⟩
    · repeat (first | rw [upd_ne (by omega)] | rw [upd_eq])
      exact h.2.2.2.2.2 j (by omega)
theorem oRD_add {M : oM} {N : Nat → Int32} {i d : Nat} {a b c : Int32} (h : oRD M N i d) (hc : cC N d < 10) : oRD (oUp (oUp (oUp (oUp M K_DK i (cC N d) a) K_DW i (cC N d) b) K_DL i (cC N d) c) K_DEED i 4 (nI (cC N d + 1))) (n_add N d a b c) i d := by
  unfold oRD at h ⊢
  rw [n_add_c hc]
  refine ⟨fun w hw => ?_, fun j hj => ?_⟩
  · by_cases z : w = 4
    · subst z
      rw [show n_add N d a b c (20 + 35 * d + 4) = nI (cC N d + 1) from upd_eq]
      exact oUp_self
    · rw [oUp_j z, oUp_k (by decide), oUp_k (by decide), oUp_k (by decide), h.1 w hw]
      unfold n_add
      repeat (first | rw [upd_ne (by omega)] | rw [upd_eq])
  · rw [oUp_k (k' := K_DK) (by decide), oUp_k (k' := K_DK) (by decide), oUp_k (k' := K_DK) (by decide), oUp_k (k' := K_DW) (by decide), oUp_k (k' := K_DW) (by decide), oUp_k (k' := K_DL) (by decide)]
    rw [oUp_at, oUp_at, oUp_at]
    unfold n_add
    by_cases z : j = cC N d
    · subst z
      repeat (first | rw [upd_ne (by omega)] | rw [upd_eq])
      exact ⟨if_pos rfl, if_pos rfl, if_pos rfl⟩
    · obtain ⟨a1, a2, a3⟩ := h.2 j (by omega)
      repeat (first | rw [upd_ne (by omega)] | rw [upd_eq])
      exact ⟨(if_neg z).trans a1, (if_neg z).trans a2, (if_neg z).trans a3⟩
theorem oDS_add {M M1 : oM} {i n : Nat} {a b c e : Int32} (h : oFr (oDS i) M M1) : oFr (oDS i) M (oUp (oUp (oUp (oUp M1 K_DK i n a) K_DW i n b) K_DL i n c) K_DEED i 4 e) := (((h.up ⟨rfl, Or.inr (Or.inl rfl)⟩).up ⟨rfl, Or.inr (Or.inr (Or.inl rfl))⟩).up ⟨rfl, Or.inr (Or.inr (Or.inr rfl))⟩).up ⟨rfl, Or.inl rfl⟩
theorem run_in {b : Int32} (h : ¬ f_Oak_isRun b = 0) : ∃ x y, x < 8 ∧ 1 ≤ y ∧ y ≤ 20 ∧ b / 100 = nI x ∧ oRem b 100 = nI y := by
  unfold f_Oak_isRun at h
  by_cases a : b < 0
  · exact absurd (if_pos a) h
  · rw [if_neg a] at h
    by_cases c : 8 ≤ b / 100
    · exact absurd (if_pos c) h
    · rw [if_neg c] at h
      by_cases d : f_Oak_isWithin (oRem b 100) 1 20 = 0
      · exact absurd (if_pos d) h
      · have h0 : 0 ≤ b.toInt := by
          have := Int32.not_lt.mp a
          exact iLe.mp this
        have hb := iRng b
        have e := nI_ofInt h0
        generalize hn : b.toInt.toNat = n at e
        have hn2 : n < 2147483648 := by omega
        have ed : b / 100 = nI (n / 100) := by rw [e, show (100 : Int32) = nI 100 from rfl, nIdiv hn2 (by decide) (by decide)]
        have er : oRem b 100 = nI (n % 100) := by rw [e, show (100 : Int32) = nI 100 from rfl, nIrem hn2 (by decide) (by decide)]
        rw [ed, show (8 : Int32) = nI 8 from rfl, nIle (by decide) (by omega)] at c
        have hr := wiR d
        rw [er] at hr
        have r1 := hr.1
        have r2 := hr.2
        rw [nIt (by omega), show (1 : Int32).toInt = 1 from rfl] at r1
        rw [nIt (by omega), show (20 : Int32).toInt = 20 from rfl] at r2
        exact ⟨n / 100, n % 100, by omega, by omega, by omega, ed, er⟩
theorem inR_n1 {n m l : Nat} (h : n ≤ m) (hl : l ≤ n) (hm : m < 2147483648) : inR (nI n) l m := ⟨by rw [nIt (by omega)]; omega, by rw [nIt (by omega)]; omega⟩
theorem run_ok {b : Int32} (h : ¬ f_Oak_isRun b = 0) : inR (b / 100) 0 7 ∧ inR (oRem b 100) 1 20 := by
  obtain ⟨x, y, h1, h2, h3, e1, e2⟩ := run_in h
  rw [e1, e2]
  exact ⟨inR_n (m := 7) (by omega) (by decide), inR_n1 (m := 20) (l := 1) h3 h2 (by decide)⟩
-- call
def s_call (D : oM) (d k r : Int32) : Int32 × oM := if f_Oak_isWithin d 0 (D K_M_now 0 2 - 1) = 0 then (vBAD, D) else if f_Oak_isWithin k 0 5 = 0 then (vBAD, D) else if f_Oak_isRun r = 0 then (vBAD, D) else if D K_M_now 0 (20 + 35 * d.toNatClampNeg + 4) = 10 then (vFULL, D) else (D K_M_now 0 (20 + 35 * d.toNatClampNeg + 4), oSR D K_M_now (n_add (D K_M_now 0) d.toNatClampNeg k (r / 100) (oRem r 100)))
theorem p_call (M D : oM) (d k r : Int32) (hI : oI M D) : oCt 3 k_Oak_call [.inr (K_OAK, 0), .inl d, .inl k, .inl r] M (oQC (s_call D d k r) M) := by
  refine oCt.of (ls := [some (.inr (K_OAK, 0)), some (.inl d), some (.inl k), some (.inl r), none]) mok_Oak_call rfl rfl ?_
  refine oRun_ok 3 rfl ?_
  refine g_callV rfl rfl rfl rfl rfl mok_Land_hasDeed (by decide) (c_Land_hasDeed _ 0 _) ?_
  rintro r5 M5 ⟨rfl, e⟩; rw [e]
  rw [hI.dd]
  refine g_if_eq rfl (fun h8 => ?_) (fun h8 => ?_)
  · refine oRun_ok 1 rfl ?_
    exact g_iret rfl rfl rfl (oQC.same hI (if_pos h8))
  · refine oRun_ok 1 rfl ?_
    refine g_callS rfl rfl rfl rfl mok_Oak_isKind (by decide) (c_Oak_isKind _ _) ?_
    rintro r12 M12 ⟨rfl, e⟩; rw [e]
    refine g_if_eq rfl (fun h15 => ?_) (fun h15 => ?_)
    · refine oRun_ok 1 rfl ?_
      exact g_iret rfl rfl rfl (oQC.same hI ((if_neg h8).trans (if_pos h15)))
    · refine oRun_ok 1 rfl ?_
      refine g_callS rfl rfl rfl rfl mok_Oak_isRun (by decide) (c_Oak_isRun _ _) ?_
      rintro r19 M19 ⟨rfl, e⟩; rw [e]
      refine g_if_ne rfl (fun h22 => ?_) (fun h22 => ?_)
      · obtain ⟨j, hj, hj4, rfl, ej⟩ := oHasD hI h8
        have hR := (hI.rd hj).1
        have hDo := hI.dok hj
        obtain ⟨hC, c10⟩ := oNC hDo
        have hM4 : M 5 (4 * 0 + j) 4 = nI (cC (D K_M_now 0) j) := (hR 4 (by decide)).trans hC
        obtain ⟨g1, g2⟩ := run_ok h22
        refine oRun_ok 4 rfl ?_
        refine g_aald j rfl rfl rfl hj4 rfl ?_
        refine oRun_ok 4 rfl ?_
        rw [hM4]
        refine g_ic_lt rfl (fun h46 => ?_) (fun h46 => ?_)
        · have l10 : cC (D K_M_now 0) j < 10 := (nIlt (a := cC (D K_M_now 0) j) (b := 10) (by omega) (by omega)).mp h46
          refine oRun_ok 8 rfl ?_
          refine g_callV rfl rfl rfl rfl rfl mok_Deed_addCall (by decide) (c_Deed_addCall _ (4 * 0 + j) (cC (D K_M_now 0) j) _ _ _ hM4 l10) ?_
          rintro r63 M63 ⟨rfl, e⟩; rw [e]
          refine oRun_ok 4 rfl ?_
          refine g_iret rfl rfl rfl ?_
          rw [oUp_self, nI_pred]
          refine oQC.deed hI (N' := n_add (D K_M_now 0) j k (r / 100) (oRem r 100)) (d := j) ?_ hj (n_add_s l10) (oDS_add oFr.rf) (oDOk_add hDo l10 (wiR h15) g1 g2) (oRD_add (hI.rd hj) l10)
          refine (if_neg h8).trans ((if_neg h15).trans ((if_neg h22).trans ((if_neg ?_).trans ?_)))
          · rw [ej, hC, show (10 : Int32) = nI 10 from rfl, nIe (by omega) (by omega)]
            omega
          · rw [ej, hC]
        · have e10 : cC (D K_M_now 0) j = 10 := by
            rw [show (10 : Int32) = nI 10 from rfl, nIlt (by omega) (by omega)] at h46
            omega
          refine oRun_ok 1 rfl ?_
          exact g_iret rfl rfl rfl (oQC.same hI ((if_neg h8).trans ((if_neg h15).trans ((if_neg h22).trans (if_pos (by rw [ej, hC, e10]; rfl))))))
      · refine oRun_ok 1 rfl ?_
        exact g_iret rfl rfl rfl (oQC.same hI ((if_neg h8).trans ((if_neg h15).trans (if_pos h22))))
theorem c_Mod_comes (M : oM) (N : Nat → Int32) (d : Nat) (a b c : Int32) (hn : M K_M_now 0 = N) (hd : d < 4) (hC : N (20 + 35 * d + 4) = nI (cC N d)) (hc : cC N d < 10) : oCt 1 k_Mod_comes [.inr (K_MOD, 0), .inl (nI d), .inl a, .inl b, .inl c] M (fun r M' => r = some (nI (cC N d)) ∧ M' K_M_now 0 = n_add N d a b c ∧ oFr (oKi K_M_now 0) M M') := by
  have hM4 : M 32 0 (20 + 35 * d + 4) = nI (cC N d) := by rw [show M 32 0 = N from hn]; exact hC
  refine oCt.of (ls := [some (.inr (K_MOD, 0)), some (.inl (nI d)), some (.inl a), some (.inl b), some (.inl c), none, none]) mok_Mod_comes rfl rfl ?_
  refine oRun_ok 3 rfl ?_
  refine g_callV rfl rfl rfl rfl rfl mok_Mod_of (by decide) (c_Mod_of _ d 4 hd (by decide)) ?_
  rintro r3 M3 ⟨rfl, e⟩; rw [e]
  rw [show M K_M_now 0 (20 + 35 * d + 4) = nI (cC N d) from hM4]
  refine oRun_ok 17 rfl ?_
  rw [show (20 : Int32) + 35 * nI d + 5 + 3 * nI (cC N d) = nI (20 + 35 * d + 5 + 3 * cC N d) by simp only [L20, L35, L5, L3, nI_times, nI_plus]]
  refine g_iast (20 + 35 * d + 5 + 3 * cC N d) rfl rfl rfl (by omega) ?_
  refine oRun_ok 6 rfl ?_
  refine g_iast (20 + 35 * d + 5 + 3 * cC N d + 1) rfl rfl (by simp only [L1, nI_plus]) (by omega) ?_
  refine oRun_ok 6 rfl ?_
  refine g_iast (20 + 35 * d + 5 + 3 * cC N d + 2) rfl rfl (by simp only [L2, nI_plus]) (by omega) ?_
  refine oRun_ok 12 rfl ?_
  refine g_iast (20 + 35 * d + 4) rfl rfl (by simp only [L20, L35, L4, nI_times, nI_plus]) (by omega) ?_
  refine oRun_ok 1 rfl ?_
  refine g_iret rfl rfl rfl ⟨rfl, ?_, (((oFr.rf.up ⟨rfl, rfl⟩).up ⟨rfl, rfl⟩).up ⟨rfl, rfl⟩).up ⟨rfl, rfl⟩⟩
  rw [oUp_upd, oUp_upd, oUp_upd, oUp_upd, hn, nI_1]
  rfl
theorem q_call (C M D : oM) (d k r : Int32) (hI : oI C D) (hD : oPs D M) : oCt 4 k_Mod_call [.inr (K_MOD, 0), .inl d, .inl k, .inl r] M (oQM (s_call D d k r) M) := by
  have hN := hD.now
  refine oCt.of (ls := [some (.inr (K_MOD, 0)), some (.inl d), some (.inl k), some (.inl r)]) mok_Mod_call rfl rfl ?_
  refine oRun_ok 2 rfl ?_
  refine g_callV rfl rfl rfl rfl rfl mok_Mod_isDeed (by decide) (c_Mod_isDeed _ _) ?_
  rintro r2 M2 ⟨rfl, e⟩; rw [e]
  rw [hN]
  refine g_if_eq rfl (fun h5 => ?_) (fun h5 => ?_)
  · refine oRun_ok 1 rfl ?_
    exact g_iret rfl rfl rfl (oQM.same hD (if_pos h5))
  · refine oRun_ok 3 rfl ?_
    refine g_callS rfl rfl rfl rfl mok_Mod_in (by decide) (c_Mod_in _ _ _ _) ?_
    rintro r11 M11 ⟨rfl, e⟩; rw [e]
    refine g_if_eq rfl (fun h14 => ?_) (fun h14 => ?_)
    · refine oRun_ok 1 rfl ?_
      exact g_iret rfl rfl rfl (oQM.same hD ((if_neg h5).trans (if_pos h14)))
    · refine oRun_ok 1 rfl ?_
      refine g_callS rfl rfl rfl rfl mok_Mod_isRun (by decide) (c_Mod_isRun _ _) ?_
      rintro r18 M18 ⟨rfl, e⟩; rw [e]
      refine g_if_ne rfl (fun h21 => ?_) (fun h21 => ?_)
      · obtain ⟨j, hj, hj4, rfl, ej⟩ := oHasD hI h5
        have hDo := hI.dok hj
        obtain ⟨hC, c10⟩ := oNC hDo
        refine oRun_ok 3 rfl ?_
        refine g_callV rfl rfl rfl rfl rfl mok_Mod_of (by decide) (c_Mod_of _ j 4 hj4 (by decide)) ?_
        rintro r30 M30 ⟨rfl, e⟩; rw [e]
        rw [hN]
        refine oRun_ok 1 rfl ?_
        refine g_ic_ne rfl (fun h35 => ?_) (fun h35 => ?_)
        · have l10 : cC (D K_M_now 0) j < 10 := by
            have : ¬ cC (D K_M_now 0) j = 10 := fun z => h35 (by rw [hC, z]; rfl)
            omega
          refine oRun_ok 9 rfl ?_
          refine g_callV rfl rfl rfl rfl rfl mok_Mod_comes (by decide) (c_Mod_comes _ _ j _ _ _ hN hj4 hC l10) ?_
          rintro r54 M54 ⟨rfl, f1, f2⟩
          refine g_iret rfl rfl rfl ?_
          refine oQM.row (k := K_M_now) (f := n_add (D K_M_now 0) j k (r / 100) (oRem r 100)) (by decide) hD ?_ f2 f1
          refine (if_neg h5).trans ((if_neg h14).trans ((if_neg h21).trans ((if_neg ?_).trans ?_)))
          · rw [ej]; exact h35
          · rw [ej, hC]
        · refine oRun_ok 2 rfl ?_
          exact g_iret rfl rfl rfl (oQM.same hD ((if_neg h5).trans ((if_neg h14).trans ((if_neg h21).trans (if_pos (by rw [ej]; exact h35))))))
      · refine oRun_ok 1 rfl ?_
        exact g_iret rfl rfl rfl (oQM.same hD ((if_neg h5).trans ((if_neg h14).trans (if_pos h21))))
-- told
theorem c_Mod_worthOf (M : oM) (d c : Nat) (hd : d < 4) (hc : c < 10) : oCt 1 k_Mod_worthOf [.inr (K_MOD, 0), .inl (nI d), .inl (nI c)] M (fun r M' => r = some (f_Oak_worthOf (M K_M_now 0 (20 + 35 * d + 5 + 3 * c)) (M K_M_now 0 (20 + 35 * d + 5 + 3 * c + 1)) (M K_M_now 0 (20 + 35 * d + 5 + 3 * c + 2))) ∧ M' = M) := by
  refine oCt.of (ls := [some (.inr (K_MOD, 0)), some (.inl (nI d)), some (.inl (nI c)), none, none]) mok_Mod_worthOf rfl rfl ?_
  refine oRun_ok 4 rfl ?_
  refine g_callV rfl rfl rfl rfl rfl mok_Mod_callOf (by decide) (c_Mod_callOf _ d c 1 hd hc (by decide)) ?_
  rintro r4 M4 ⟨rfl, e⟩; rw [e]
  refine oRun_ok 5 rfl ?_
  refine g_callV rfl rfl rfl rfl rfl mok_Mod_callOf (by decide) (c_Mod_callOf _ d c 2 hd hc (by decide)) ?_
  rintro r12 M12 ⟨rfl, e⟩; rw [e]
  refine oRun_ok 5 rfl ?_
  refine g_callV rfl rfl rfl rfl rfl mok_Mod_callOf (by decide) (c_Mod_callOf _ d c 0 hd hc (by decide)) ?_
  rintro r21 M21 ⟨rfl, e⟩; rw [e]
  rw [show M K_M_now 0 (20 + 35 * d + 5 + 3 * c + 0) = M K_M_now 0 (20 + 35 * d + 5 + 3 * c) from rfl]
  generalize M K_M_now 0 (20 + 35 * d + 5 + 3 * c) = k
  refine g_tsw [(1, 60), (2, 65), (3, 68), (4, 75), (5, 81)] 85 rfl (by decide +kernel) rfl ⟨fun h24 => ?_, fun h24 => ?_, fun h24 => ?_, fun h24 => ?_, fun h24 => ?_, trivial⟩ (fun h24 => ?_)
  · subst h24
    refine oRun_ok 3 rfl ?_
    exact g_iret rfl rfl rfl ⟨rfl, rfl⟩
  · subst h24
    refine oRun_ok 1 rfl ?_
    exact g_iret rfl rfl rfl ⟨rfl, rfl⟩
  · subst h24
    refine oRun_ok 5 rfl ?_
    exact g_iret rfl rfl rfl ⟨rfl, rfl⟩
  · subst h24
    refine oRun_ok 3 rfl ?_
    exact g_iret rfl rfl rfl ⟨rfl, rfl⟩
  · subst h24
    refine oRun_ok 2 rfl ?_
    exact g_iret rfl rfl rfl ⟨rfl, rfl⟩
  · refine oRun_ok 1 rfl ?_
    refine g_iret rfl rfl rfl ⟨?_, rfl⟩
    unfold f_Oak_worthOf
    rw [if_neg (h24 (1, 60) (by decide)), if_neg (h24 (2, 65) (by decide)), if_neg (h24 (3, 68) (by decide)), if_neg (h24 (4, 75) (by decide)), if_neg (h24 (5, 81) (by decide))]
def s_told (D : oM) (d c w : Int32) : Int32 × oM := if sHC (D K_M_now 0) d c = 0 then (vBAD, D) else if f_Oak_isWithin w 0 4 = 0 then (vBAD, D) else
  (if w = 3 then f_Oak_trueOf (D K_M_now 0 (20 + 35 * d.toNatClampNeg + 5 + 3 * c.toNatClampNeg + 2)) (sCh (D K_M_now 0) d.toNatClampNeg)
   else if w = 4 then f_Oak_worthOf (D K_M_now 0 (20 + 35 * d.toNatClampNeg + 5 + 3 * c.toNatClampNeg)) (D K_M_now 0 (20 + 35 * d.toNatClampNeg + 5 + 3 * c.toNatClampNeg + 1)) (D K_M_now 0 (20 + 35 * d.toNatClampNeg + 5 + 3 * c.toNatClampNeg + 2))
   else D K_M_now 0 (20 + 35 * d.toNatClampNeg + 5 + 3 * c.toNatClampNeg + w.toNatClampNeg), D)
theorem p_told (M D : oM) (d c w : Int32) (hI : oI M D) : oCt 3 k_Oak_told [.inr (K_OAK, 0), .inl d, .inl c, .inl w] M (oQC (s_told D d c w) M) := by
  obtain ⟨hDD, d4⟩ := oND hI.ok
  refine oCt.of (ls := [some (.inr (K_OAK, 0)), some (.inl d), some (.inl c), some (.inl w), none]) mok_Oak_told rfl rfl ?_
  refine oRun_ok 4 rfl ?_
  refine g_callV rfl rfl rfl rfl rfl mok_Land_hasCall (by decide) (c_Land_hasCall _ 0 (cD (D K_M_now 0)) _ _ (hI.dd.trans hDD) d4) ?_
  rintro r6 M6 ⟨rfl, e⟩; rw [e]
  rw [oHC_eq hI]
  refine g_if_ne rfl (fun h9 => ?_) (fun h9 => ?_)
  · obtain ⟨j, k, hj, hj4, hk, hk10, rfl, rfl, ej, ek⟩ := oHC_ok hI h9
    obtain ⟨a1, a2, a3⟩ := (hI.rd hj).2 k hk
    have fin : ∀ (v u : Int32) (M' : oM), ¬ f_Oak_isWithin v 0 4 = 0 → (if v = 3 then f_Oak_trueOf (D K_M_now 0 (20 + 35 * j + 5 + 3 * k + 2)) (sCh (D K_M_now 0) j) else if v = 4 then f_Oak_worthOf (D K_M_now 0 (20 + 35 * j + 5 + 3 * k)) (D K_M_now 0 (20 + 35 * j + 5 + 3 * k + 1)) (D K_M_now 0 (20 + 35 * j + 5 + 3 * k + 2)) else D K_M_now 0 (20 + 35 * j + 5 + 3 * k + v.toNatClampNeg)) = u → oFr oCsc M M' → oQC (s_told D (nI j) (nI k) v) M (some u) M' := by
      intro v u M' h1 h2 h3
      refine oQC.look hI ((if_neg h9).trans ((if_neg h1).trans ?_)) h3
      rw [ej, ek, h2]
    refine oRun_ok 4 rfl ?_
    refine g_aald j rfl rfl rfl hj4 rfl ?_
    refine oRun_ok 2 rfl ?_
    refine g_tsw [(0, 60), (1, 68), (2, 76), (3, 84), (4, 103)] 128 rfl (by decide +kernel) rfl ⟨fun h27 => ?_, fun h27 => ?_, fun h27 => ?_, fun h27 => ?_, fun h27 => ?_, trivial⟩ (fun h27 => ?_)
    · subst h27
      refine oRun_ok 3 rfl ?_
      refine g_iald k rfl rfl rfl (by omega) ?_
      exact g_iret rfl rfl rfl (fin 0 _ _ (by decide) a1.symm oFr.rf)
    · subst h27
      refine oRun_ok 3 rfl ?_
      refine g_iald k rfl rfl rfl (by omega) ?_
      exact g_iret rfl rfl rfl (fin 1 _ _ (by decide) a2.symm oFr.rf)
    · subst h27
      refine oRun_ok 3 rfl ?_
      refine g_iald k rfl rfl rfl (by omega) ?_
      exact g_iret rfl rfl rfl (fin 2 _ _ (by decide) a3.symm oFr.rf)
    · subst h27
      refine oRun_ok 3 rfl ?_
      refine g_iald k rfl rfl rfl (by omega) ?_
      refine oRun_ok 3 rfl ?_
      refine g_callV rfl rfl rfl rfl rfl mok_Land_chainOf (by decide) (c_Land_chainOf _ _ 0 j hI.ok hI.rl hj) ?_
      rintro r M' ⟨rfl, f⟩
      refine g_callS rfl rfl rfl rfl mok_Oak_trueOf (by decide) (c_Oak_trueOf _ _ _) ?_
      rintro r99 M99 ⟨rfl, e⟩; rw [e]
      exact g_iret rfl rfl rfl (fin 3 _ _ (by decide) (by rw [show M 8 (4 * 0 + j) k = _ from a3]; rfl) f.lk)
    · subst h27
      refine oRun_ok 3 rfl ?_
      refine g_iald k rfl rfl rfl (by omega) ?_
      refine oRun_ok 3 rfl ?_
      refine g_iald k rfl rfl rfl (by omega) ?_
      refine oRun_ok 3 rfl ?_
      refine g_iald k rfl rfl rfl (by omega) ?_
      refine g_callS rfl rfl rfl rfl mok_Oak_worthOf (by decide) (c_Oak_worthOf _ _ _ _) ?_
      rintro r124 M124 ⟨rfl, e⟩; rw [e]
      exact g_iret rfl rfl rfl (fin 4 _ _ (by decide) (by rw [show M 8 (4 * 0 + j) k = _ from a3, show M 7 (4 * 0 + j) k = _ from a2, show M 6 (4 * 0 + j) k = _ from a1]; rfl) oFr.rf)
    · refine oRun_ok 1 rfl ?_
      refine g_iret rfl rfl rfl (oQC.same hI ((if_neg h9).trans (if_pos ?_)))
      refine Decidable.byContradiction (fun z => ?_)
      obtain ⟨q, hq, rfl⟩ := wiI (m := 5) (v := w) (by decide) z
      have hq : q = 0 ∨ q = 1 ∨ q = 2 ∨ q = 3 ∨ q = 4 := by omega
      rcases hq with rfl | rfl | rfl | rfl | rfl
      · exact h27 (0, 60) (by decide) rfl
      · exact h27 (1, 68) (by decide) rfl
      · exact h27 (2, 76) (by decide) rfl
      · exact h27 (3, 84) (by decide) rfl
      · exact h27 (4, 103) (by decide) rfl
  · refine oRun_ok 1 rfl ?_
    exact g_iret rfl rfl rfl (oQC.same hI (if_pos h9))
theorem q_told (C M D : oM) (d c w : Int32) (hI : oI C D) (hD : oPs D M) : oCt 4 k_Mod_told [.inr (K_MOD, 0), .inl d, .inl c, .inl w] M (oQM (s_told D d c w) M) := by
  have hN := hD.now
  refine oCt.of (ls := [some (.inr (K_MOD, 0)), some (.inl d), some (.inl c), some (.inl w)]) mok_Mod_told rfl rfl ?_
  refine oRun_ok 3 rfl ?_
  refine g_callV rfl rfl rfl rfl rfl mok_Mod_isCall (by decide) (c_Mod_isCall _ _ _ (by rw [hN]; exact hI.ok)) ?_
  rintro r3 M3 ⟨rfl, e⟩; rw [e]
  rw [hN]
  show oG k_Mod_told 4 6 _ [.inl (sHC (D K_M_now 0) d c)] _ _
  refine g_if_eq rfl (fun h6 => ?_) (fun h6 => ?_)
  · refine oRun_ok 1 rfl ?_
    exact g_iret rfl rfl rfl (oQM.same hD (if_pos h6))
  · refine oRun_ok 3 rfl ?_
    refine g_callS rfl rfl rfl rfl mok_Mod_in (by decide) (c_Mod_in _ _ _ _) ?_
    rintro r12 M12 ⟨rfl, e⟩; rw [e]
    refine g_if_ne rfl (fun h15 => ?_) (fun h15 => ?_)
    · obtain ⟨j, k, hj, hj4, hk, hk10, rfl, rfl, ej, ek⟩ := oHC_ok hI h6
      obtain ⟨q, hq, rfl⟩ := wiI (m := 5) (v := w) (by decide) h15
      have fin : ∀ (u : Int32) (M' : oM), (if nI q = 3 then f_Oak_trueOf (D K_M_now 0 (20 + 35 * j + 5 + 3 * k + 2)) (sCh (D K_M_now 0) j) else if nI q = 4 then f_Oak_worthOf (D K_M_now 0 (20 + 35 * j + 5 + 3 * k)) (D K_M_now 0 (20 + 35 * j + 5 + 3 * k + 1)) (D K_M_now 0 (20 + 35 * j + 5 + 3 * k + 2)) else D K_M_now 0 (20 + 35 * j + 5 + 3 * k + (nI q).toNatClampNeg)) = u → oMs M M' → oQM (s_told D (nI j) (nI k) (nI q)) M (some u) M' := by
        intro u M' h2 h3
        refine oQM.look hD ((if_neg h6).trans ((if_neg h15).trans ?_)) h3
        rw [ej, ek, h2]
      refine oRun_ok 2 rfl ?_
      refine g_ic_ge rfl (fun h23 => ?_) (fun h23 => ?_)
      · have q3 : 3 ≤ q := (nIle (a := 3) (b := q) (by omega) (by omega)).mp h23
        refine oRun_ok 2 rfl ?_
        refine g_ic_ne rfl (fun h38 => ?_) (fun h38 => ?_)
        · obtain rfl : q = 4 := by
            have : ¬ q = 3 := fun z => h38 (by rw [z]; rfl)
            omega
          refine oRun_ok 3 rfl ?_
          refine g_callV rfl rfl rfl rfl rfl mok_Mod_worthOf (by decide) (c_Mod_worthOf _ j k hj4 hk10) ?_
          rintro r62 M62 ⟨rfl, e⟩; rw [e]
          exact g_iret rfl rfl rfl (fin _ _ (by rw [hN]; rfl) oMs.rf)
        · obtain rfl : q = 3 := (nIe (a := q) (b := 3) (by omega) (by omega)).mp h38
          refine oRun_ok 4 rfl ?_
          refine g_callV rfl rfl rfl rfl rfl mok_Mod_callOf (by decide) (c_Mod_callOf _ j k 2 hj4 hk10 (by decide)) ?_
          rintro r45 M45 ⟨rfl, e⟩; rw [e]
          refine oRun_ok 2 rfl ?_
          refine g_callV rfl rfl rfl rfl rfl mok_Mod_chainOf (by decide) (c_Mod_chainOf _ _ j hN hI.ok hj) ?_
          rintro r M' ⟨rfl, f⟩
          refine g_callS rfl rfl rfl rfl mok_Mod_trueBy (by decide) (c_Mod_trueBy _ _ _) ?_
          rintro r53 M53 ⟨rfl, e⟩; rw [e]
          refine oRun_ok 1 rfl ?_
          exact g_iret rfl rfl rfl (fin _ _ (by rw [hN]; rfl) (oMs_ml f))
      · have q3 : ¬ 3 ≤ q := fun z => h23 ((nIle (a := 3) (b := q) (by omega) (by omega)).mpr z)
        refine oRun_ok 4 rfl ?_
        refine g_callV rfl rfl rfl rfl rfl mok_Mod_callOf (by decide) (c_Mod_callOf _ j k q hj4 hk10 (by omega)) ?_
        rintro r30 M30 ⟨rfl, e⟩; rw [e]
        refine oRun_ok 1 rfl ?_
        refine g_iret rfl rfl rfl (fin _ _ ?_ oMs.rf)
        have n3 : ∀ m, 3 ≤ m → m < 8 → ¬ nI q = nI m := fun m h1 h2 z => by
          rw [nIe (by omega) (by omega)] at z
          omega
        refine (if_neg (n3 3 (by omega) (by omega))).trans ((if_neg (n3 4 (by omega) (by omega))).trans ?_)
        rw [nIc (by omega), hN]
    · refine oRun_ok 1 rfl ?_
      exact g_iret rfl rfl rfl (oQM.same hD ((if_neg h6).trans (if_pos h15)))

