/-! ===== as, turns, drop ===== -/
def oChn (k : Nat) : List Nat := ([[0], [1, 0], [2, 0], [3, 1, 0], [4, 2, 0], [5, 0]] : List (List Nat)).getD k []
theorem under_k : ∀ k b : Fin 6, f_Mod_isUnder (nI k.val) (nI b.val) = if b.val ∈ oChn k.val then 1 else 0 := by decide +kernel
theorem c_Oak_isOfKind (M : oM) (k b : Nat) (hk : k < 6) (hb : b < 6) : oCt 2 k_Oak_isOfKind [.inl (nI k), .inl (nI b)] M (fun r M' => r = some (f_Mod_isUnder (nI k) (nI b)) ∧ M' = M) := by
  have hu := under_k ⟨k, hk⟩ ⟨b, hb⟩
  simp only at hu
  rw [hu]
  refine oCt.of (ls := [some (.inl (nI k)), some (.inl (nI b)), none, none]) mok_Oak_isOfKind rfl rfl ?_
  generalize hQ : (fun (r : Option Int32) (M' : oM) => r = some (if b ∈ oChn k then (1 : Int32) else 0) ∧ M' = M) = Q
  have yes : b ∈ oChn k → Q (some 1) M := fun h => by rw [← hQ]; exact ⟨by rw [if_pos h], rfl⟩
  have no : ¬ b ∈ oChn k → Q (some 0) M := fun h => by rw [← hQ]; exact ⟨by rw [if_neg h], rfl⟩
  have stop : ∀ s, s < 6 → ¬ b ∈ oChn k → oG k_Oak_isOfKind 2 4 [some (.inl (nI k)), some (.inl (nI b)), some (.inl (-1)), some (.inl (nI s))] [] M Q := by
    intro s hs h
    refine oRun_ok 2 rfl ?_
    refine g_ic_ge rfl (fun h7 => ?_) (fun h7 => ?_)
    · exfalso
      have h7 : nI 6 ≤ nI s := h7
      rw [nIle (by omega) (by omega)] at h7
      omega
    · refine oRun_ok 1 rfl ?_
      refine g_callS rfl rfl rfl rfl mok_Oak_isKind (by decide) (c_Oak_isKind _ _) ?_
      rintro r11 M11 ⟨rfl, e⟩; rw [e]
      refine g_if_eq rfl (fun h14 => ?_) (fun h14 => ?_)
      · refine oRun_ok 1 rfl ?_
        exact g_iret rfl rfl rfl (no h)
      · exact absurd (by decide) h14
  have one : ∀ a s, a < 6 → s < 6 → (b = a → b ∈ oChn k) → (¬ b = a → oG k_Oak_isOfKind 2 4 [some (.inl (nI k)), some (.inl (nI b)), some (.inl (oTV 0 a)), some (.inl (nI (s + 1)))] [] M Q) → oG k_Oak_isOfKind 2 4 [some (.inl (nI k)), some (.inl (nI b)), some (.inl (nI a)), some (.inl (nI s))] [] M Q := by
    intro a s ha hs h1 h2
    refine oRun_ok 2 rfl ?_
    refine g_ic_ge rfl (fun h7 => ?_) (fun h7 => ?_)
    · exfalso
      have h7 : nI 6 ≤ nI s := h7
      rw [nIle (by omega) (by omega)] at h7
      omega
    · refine oRun_ok 1 rfl ?_
      refine g_callS rfl rfl rfl rfl mok_Oak_isKind (by decide) (c_Oak_isKind _ _) ?_
      rintro r11 M11 ⟨rfl, e⟩; rw [e]
      refine g_if_eq rfl (fun h14 => ?_) (fun h14 => ?_)
      · exfalso
        have h14 : f_Oak_isWithin (nI a) 0 (nI 6 - 1) = 0 := h14
        rw [wiN (by omega) (by omega)] at h14
        omega
      · refine oRun_ok 2 rfl ?_
        refine g_ic_ne rfl (fun h19 => ?_) (fun h19 => ?_)
        · refine g_above rfl rfl ?_
          refine oRun_ok 1 rfl ?_
          refine g_tld a rfl (by decide) rfl ha ?_
          refine oRun_ok 3 rfl ?_
          rw [nI_1]
          exact h2 (fun z => h19 (by rw [z]))
        · refine oRun_ok 1 rfl ?_
          exact g_iret rfl rfl rfl (yes (h1 ((nIe (by omega) (by omega)).mp h19.symm)))
  refine oRun_ok 4 rfl ?_
  have hk : k = 0 ∨ k = 1 ∨ k = 2 ∨ k = 3 ∨ k = 4 ∨ k = 5 := by omega
  rcases hk with rfl | rfl | rfl | rfl | rfl | rfl
  · exact one 0 0 (by decide) (by decide) (fun z => by rw [z]; decide) (fun z0 => stop 1 (by decide) (by simp [oChn]; omega))
  · exact one 1 0 (by decide) (by decide) (fun z => by rw [z]; decide) (fun z0 => one 0 1 (by decide) (by decide) (fun z => by rw [z]; decide) (fun z1 => stop 2 (by decide) (by simp [oChn]; omega)))
  · exact one 2 0 (by decide) (by decide) (fun z => by rw [z]; decide) (fun z0 => one 0 1 (by decide) (by decide) (fun z => by rw [z]; decide) (fun z1 => stop 2 (by decide) (by simp [oChn]; omega)))
  · exact one 3 0 (by decide) (by decide) (fun z => by rw [z]; decide) (fun z0 => one 1 1 (by decide) (by decide) (fun z => by rw [z]; decide) (fun z1 => one 0 2 (by decide) (by decide) (fun z => by rw [z]; decide) (fun z2 => stop 3 (by decide) (by simp [oChn]; omega))))
  · exact one 4 0 (by decide) (by decide) (fun z => by rw [z]; decide) (fun z0 => one 2 1 (by decide) (by decide) (fun z => by rw [z]; decide) (fun z1 => one 0 2 (by decide) (by decide) (fun z => by rw [z]; decide) (fun z2 => stop 3 (by decide) (by simp [oChn]; omega))))
  · exact one 5 0 (by decide) (by decide) (fun z => by rw [z]; decide) (fun z0 => one 0 1 (by decide) (by decide) (fun z => by rw [z]; decide) (fun z1 => stop 2 (by decide) (by simp [oChn]; omega)))
def s_as (D : oM) (d c k : Int32) : Int32 × oM := if sHC (D K_M_now 0) d c = 0 then (vBAD, D) else if f_Oak_isWithin k 0 5 = 0 then (vBAD, D) else if f_Mod_isUnder (D K_M_now 0 (20 + 35 * d.toNatClampNeg + 5 + 3 * c.toNatClampNeg)) k = 0 then (vKIND, D) else (D K_M_now 0 (20 + 35 * d.toNatClampNeg + 5 + 3 * c.toNatClampNeg + 2), D)
theorem p_as (M D : oM) (d c k : Int32) (hI : oI M D) : oCt 3 k_Oak_as [.inr (K_OAK, 0), .inl d, .inl c, .inl k] M (oQC (s_as D d c k) M) := by
  obtain ⟨hDD, d4⟩ := oND hI.ok
  refine oCt.of (ls := [some (.inr (K_OAK, 0)), some (.inl d), some (.inl c), some (.inl k), none]) mok_Oak_as rfl rfl ?_
  refine oRun_ok 4 rfl ?_
  refine g_callV rfl rfl rfl rfl rfl mok_Land_hasCall (by decide) (c_Land_hasCall _ 0 (cD (D K_M_now 0)) _ _ (hI.dd.trans hDD) d4) ?_
  rintro r6 M6 ⟨rfl, e⟩; rw [e]
  rw [oHC_eq hI]
  refine g_if_eq rfl (fun h9 => ?_) (fun h9 => ?_)
  · refine oRun_ok 1 rfl ?_
    exact g_iret rfl rfl rfl (oQC.same hI (if_pos h9))
  · refine oRun_ok 1 rfl ?_
    refine g_callS rfl rfl rfl rfl mok_Oak_isKind (by decide) (c_Oak_isKind _ _) ?_
    rintro r13 M13 ⟨rfl, e⟩; rw [e]
    refine g_if_ne rfl (fun h16 => ?_) (fun h16 => ?_)
    · obtain ⟨j, i, hj, hj4, hi, hi10, rfl, rfl, ej, ei⟩ := oHC_ok hI h9
      obtain ⟨b, hb, rfl⟩ := wiI (m := 6) (v := k) (by decide) h16
      obtain ⟨a1, a2, a3⟩ := (hI.rd hj).2 i hi
      obtain ⟨kd, wy, ln, g1, g2, g3, g4, g5, g6⟩ := oCall_ok (hI.dok hj) hi
      have hk : M 6 (4 * 0 + j) i = nI kd := a1.trans g4
      have g4' : D K_M_now 0 (20 + 35 * j + 5 + 3 * i) = nI kd := g4
      refine oRun_ok 4 rfl ?_
      refine g_aald j rfl rfl rfl hj4 rfl ?_
      refine oRun_ok 4 rfl ?_
      refine g_iald i rfl rfl rfl (by omega) ?_
      rw [hk]
      refine oRun_ok 1 rfl ?_
      refine g_callS rfl rfl rfl rfl mok_Oak_isOfKind (by decide) (c_Oak_isOfKind _ kd b g1 hb) ?_
      rintro r41 M41 ⟨rfl, e⟩; rw [e]
      refine g_if_eq rfl (fun h44 => ?_) (fun h44 => ?_)
      · refine oRun_ok 1 rfl ?_
        exact g_iret rfl rfl rfl (oQC.same hI ((if_neg h9).trans ((if_neg h16).trans (if_pos (by rw [ej, ei, g4']; exact h44)))))
      · refine oRun_ok 3 rfl ?_
        refine g_iald i rfl rfl rfl (by omega) ?_
        refine oRun_ok 1 rfl ?_
        exact g_iret rfl rfl rfl (oQC.same hI ((if_neg h9).trans ((if_neg h16).trans ((if_neg (by rw [ej, ei, g4']; exact h44)).trans (by rw [ej, ei, show M 8 (4 * 0 + j) i = _ from a3])))))
    · refine oRun_ok 1 rfl ?_
      exact g_iret rfl rfl rfl (oQC.same hI ((if_neg h9).trans (if_pos h16)))
theorem q_as (C M D : oM) (d c k : Int32) (hI : oI C D) (hD : oPs D M) : oCt 4 k_Mod_as [.inr (K_MOD, 0), .inl d, .inl c, .inl k] M (oQM (s_as D d c k) M) := by
  have hN := hD.now
  refine oCt.of (ls := [some (.inr (K_MOD, 0)), some (.inl d), some (.inl c), some (.inl k)]) mok_Mod_as rfl rfl ?_
  refine oRun_ok 3 rfl ?_
  refine g_callV rfl rfl rfl rfl rfl mok_Mod_isCall (by decide) (c_Mod_isCall _ _ _ (by rw [hN]; exact hI.ok)) ?_
  rintro r3 M3 ⟨rfl, e⟩; rw [e]
  rw [hN]
  show oG k_Mod_as 4 6 _ [.inl (sHC (D K_M_now 0) d c)] _ _
  refine g_if_eq rfl (fun h6 => ?_) (fun h6 => ?_)
  · refine oRun_ok 1 rfl ?_
    exact g_iret rfl rfl rfl (oQM.same hD (if_pos h6))
  · refine oRun_ok 3 rfl ?_
    refine g_callS rfl rfl rfl rfl mok_Mod_in (by decide) (c_Mod_in _ _ _ _) ?_
    rintro r12 M12 ⟨rfl, e⟩; rw [e]
    refine g_if_ne rfl (fun h15 => ?_) (fun h15 => ?_)
    · obtain ⟨j, i, hj, hj4, hi, hi10, rfl, rfl, ej, ei⟩ := oHC_ok hI h6
      refine oRun_ok 4 rfl ?_
      refine g_callV rfl rfl rfl rfl rfl mok_Mod_callOf (by decide) (c_Mod_callOf _ j i 0 hj4 hi10 (by decide)) ?_
      rintro r25 M25 ⟨rfl, e⟩; rw [e]
      rw [hN]
      refine oRun_ok 1 rfl ?_
      refine g_callS rfl rfl rfl rfl mok_Mod_isUnder (by decide) (c_Mod_isUnder _ _ _) ?_
      rintro r29 M29 ⟨rfl, e⟩; rw [e]
      refine g_if_eq rfl (fun h32 => ?_) (fun h32 => ?_)
      · refine oRun_ok 1 rfl ?_
        exact g_iret rfl rfl rfl (oQM.same hD ((if_neg h6).trans ((if_neg h15).trans (if_pos (by rw [ej, ei]; exact h32)))))
      · refine oRun_ok 4 rfl ?_
        refine g_callV rfl rfl rfl rfl rfl mok_Mod_callOf (by decide) (c_Mod_callOf _ j i 2 hj4 hi10 (by decide)) ?_
        rintro r39 M39 ⟨rfl, e⟩; rw [e]
        rw [hN]
        refine oRun_ok 1 rfl ?_
        exact g_iret rfl rfl rfl (oQM.same hD ((if_neg h6).trans ((if_neg h15).trans ((if_neg (by rw [ej, ei]; exact h32)).trans (by rw [ej, ei])))))
    · refine oRun_ok 1 rfl ?_
      exact g_iret rfl rfl rfl (oQM.same hD ((if_neg h6).trans (if_pos h15)))
-- turns
def s_turns (D : oM) (d c k : Int32) : Int32 × oM := if sHC (D K_M_now 0) d c = 0 then (vBAD, D) else if f_Oak_isWithin k 0 5 = 0 then (vBAD, D) else (D K_M_now 0 (20 + 35 * d.toNatClampNeg + 5 + 3 * c.toNatClampNeg), oSR D K_M_now (upd (D K_M_now 0) (20 + 35 * d.toNatClampNeg + 5 + 3 * c.toNatClampNeg) k))
theorem p_turns (M D : oM) (d c k : Int32) (hI : oI M D) : oCt 3 k_Oak_turns [.inr (K_OAK, 0), .inl d, .inl c, .inl k] M (oQC (s_turns D d c k) M) := by
  obtain ⟨hDD, d4⟩ := oND hI.ok
  refine oCt.of (ls := [some (.inr (K_OAK, 0)), some (.inl d), some (.inl c), some (.inl k), none, none]) mok_Oak_turns rfl rfl ?_
  refine oRun_ok 4 rfl ?_
  refine g_callV rfl rfl rfl rfl rfl mok_Land_hasCall (by decide) (c_Land_hasCall _ 0 (cD (D K_M_now 0)) _ _ (hI.dd.trans hDD) d4) ?_
  rintro r6 M6 ⟨rfl, e⟩; rw [e]
  rw [oHC_eq hI]
  refine g_if_eq rfl (fun h9 => ?_) (fun h9 => ?_)
  · refine oRun_ok 1 rfl ?_
    exact g_iret rfl rfl rfl (oQC.same hI (if_pos h9))
  · refine oRun_ok 1 rfl ?_
    refine g_callS rfl rfl rfl rfl mok_Oak_isKind (by decide) (c_Oak_isKind _ _) ?_
    rintro r13 M13 ⟨rfl, e⟩; rw [e]
    refine g_if_ne rfl (fun h16 => ?_) (fun h16 => ?_)
    · obtain ⟨j, i, hj, hj4, hi, hi10, rfl, rfl, ej, ei⟩ := oHC_ok hI h9
      obtain ⟨a1, a2, a3⟩ := (hI.rd hj).2 i hi
      refine oRun_ok 4 rfl ?_
      refine g_aald j rfl rfl rfl hj4 rfl ?_
      refine oRun_ok 4 rfl ?_
      refine g_iald i rfl rfl rfl (by omega) ?_
      refine oRun_ok 5 rfl ?_
      refine g_iast i rfl rfl rfl (by omega) ?_
      refine oRun_ok 1 rfl ?_
      refine g_iret rfl rfl rfl ?_
      rw [show M 6 (4 * 0 + j) i = _ from a1]
      have hDo := hI.dok hj
      have ec : cC (upd (D K_M_now 0) (20 + 35 * j + 5 + 3 * i) k) j = cC (D K_M_now 0) j := by unfold cC; rw [upd_ne (by omega)]
      refine oQC.deed hI (N' := upd (D K_M_now 0) (20 + 35 * j + 5 + 3 * i) k) (d := j) ?_ hj (fun x hx => upd_ne (by omega)) (oFr.rf.up ⟨rfl, Or.inr (Or.inl rfl)⟩) (oDOk_c hDo (fun w hw => upd_ne (by omega)) ?_ (fun x hx => ?_)) ⟨fun w hw => ?_, fun x hx => ?_⟩
      · refine (if_neg h9).trans ((if_neg h16).trans ?_)
        rw [ej, ei]
      · rw [upd_ne (by omega)]
        exact hDo.2.2.2.2.1
      · rw [ec] at hx
        have hx' := hDo.2.2.2.2.2 x hx
        by_cases z : x = i
        · subst z
          repeat (first | rw [upd_ne (by omega)] | rw [upd_eq])
          exact ⟨wiR h16, hx'.2⟩
        · repeat (first | rw [upd_ne (by omega)] | rw [upd_eq])
          exact hx'
      · rw [upd_ne (by omega)]
        exact (hI.rd hj).1 w hw
      · rw [ec] at hx
        obtain ⟨b1, b2, b3⟩ := (hI.rd hj).2 x hx
        rw [oUp_at, oUp_k (k' := K_DW) (by decide), oUp_k (k' := K_DL) (by decide)]
        by_cases z : x = i
        · subst z
          repeat (first | rw [upd_ne (by omega)] | rw [upd_eq])
          exact ⟨if_pos rfl, b2, b3⟩
        · repeat (first | rw [upd_ne (by omega)] | rw [upd_eq])
          exact ⟨(if_neg z).trans b1, b2, b3⟩
    · refine oRun_ok 1 rfl ?_
      exact g_iret rfl rfl rfl (oQC.same hI ((if_neg h9).trans (if_pos h16)))
theorem q_turns (C M D : oM) (d c k : Int32) (hI : oI C D) (hD : oPs D M) : oCt 4 k_Mod_turns [.inr (K_MOD, 0), .inl d, .inl c, .inl k] M (oQM (s_turns D d c k) M) := by
  have hN := hD.now
  refine oCt.of (ls := [some (.inr (K_MOD, 0)), some (.inl d), some (.inl c), some (.inl k), none]) mok_Mod_turns rfl rfl ?_
  refine oRun_ok 3 rfl ?_
  refine g_callV rfl rfl rfl rfl rfl mok_Mod_isCall (by decide) (c_Mod_isCall _ _ _ (by rw [hN]; exact hI.ok)) ?_
  rintro r3 M3 ⟨rfl, e⟩; rw [e]
  rw [hN]
  show oG k_Mod_turns 4 6 _ [.inl (sHC (D K_M_now 0) d c)] _ _
  refine g_if_eq rfl (fun h6 => ?_) (fun h6 => ?_)
  · refine oRun_ok 1 rfl ?_
    exact g_iret rfl rfl rfl (oQM.same hD (if_pos h6))
  · refine oRun_ok 3 rfl ?_
    refine g_callS rfl rfl rfl rfl mok_Mod_in (by decide) (c_Mod_in _ _ _ _) ?_
    rintro r12 M12 ⟨rfl, e⟩; rw [e]
    refine g_if_ne rfl (fun h15 => ?_) (fun h15 => ?_)
    · obtain ⟨j, i, hj, hj4, hi, hi10, rfl, rfl, ej, ei⟩ := oHC_ok hI h6
      refine oRun_ok 4 rfl ?_
      refine g_callV rfl rfl rfl rfl rfl mok_Mod_callOf (by decide) (c_Mod_callOf _ j i 0 hj4 hi10 (by decide)) ?_
      rintro r25 M25 ⟨rfl, e⟩; rw [e]
      rw [hN]
      refine oRun_ok 15 rfl ?_
      refine g_iast (20 + 35 * j + 5 + 3 * i) rfl rfl (by simp only [L20, L35, L5, L3, nI_times, nI_plus]) (by omega) ?_
      refine oRun_ok 1 rfl ?_
      refine g_iret rfl rfl rfl ?_
      refine oQM.row (k := K_M_now) (f := upd (D K_M_now 0) (20 + 35 * j + 5 + 3 * i) k) (by decide) hD ?_ (oFr.rf.up ⟨rfl, rfl⟩) (by rw [oUp_upd, ← hN])
      refine (if_neg h6).trans ((if_neg h15).trans ?_)
      rw [ej, ei]
      rfl
    · refine oRun_ok 1 rfl ?_
      exact g_iret rfl rfl rfl (oQM.same hD ((if_neg h6).trans (if_pos h15)))
-- drop
def n_dropk (N : Nat → Int32) (d c k : Nat) : Nat → Int32 := fun j => if j = 20 + 35 * d + 4 then nI (cC N d - 1) else if 20 + 35 * d + 5 + 3 * c ≤ j ∧ j < 20 + 35 * d + 5 + k then N (j + 3) else N j
def s_drop (D : oM) (d c : Int32) : Int32 × oM := if sHC (D K_M_now 0) d c = 0 then (vBAD, D) else (nI (cC (D K_M_now 0) d.toNatClampNeg - 1), oSR D K_M_now (n_dropk (D K_M_now 0) d.toNatClampNeg c.toNatClampNeg (3 * (cC (D K_M_now 0) d.toNatClampNeg - 1))))
theorem p_drop (M D : oM) (d c : Int32) (hI : oI M D) : oCt 3 k_Oak_drop [.inr (K_OAK, 0), .inl d, .inl c] M (oQC (s_drop D d c) M) := by
  obtain ⟨hDD, d4⟩ := oND hI.ok
  refine oCt.of (ls := [some (.inr (K_OAK, 0)), some (.inl d), some (.inl c)]) mok_Oak_drop rfl rfl ?_
  refine oRun_ok 4 rfl ?_
  refine g_callV rfl rfl rfl rfl rfl mok_Land_hasCall (by decide) (c_Land_hasCall _ 0 (cD (D K_M_now 0)) _ _ (hI.dd.trans hDD) d4) ?_
  rintro r6 M6 ⟨rfl, e⟩; rw [e]
  rw [oHC_eq hI]
  refine g_if_ne rfl (fun h9 => ?_) (fun h9 => ?_)
  · obtain ⟨j, i, hj, hj4, hi, hi10, rfl, rfl, ej, ei⟩ := oHC_ok hI h9
    have hDo := hI.dok hj
    obtain ⟨hC, c10⟩ := oNC hDo
    obtain ⟨r1, r2⟩ := hI.rd hj
    refine oRun_ok 4 rfl ?_
    refine g_aald j rfl rfl rfl hj4 rfl ?_
    refine oRun_ok 1 rfl ?_
    refine g_callV rfl rfl rfl rfl rfl mok_Deed_removeCall (by decide) (c_Deed_removeCall _ (4 * 0 + j) i (cC (D K_M_now 0) j) ((r1 4 (by decide)).trans hC) hi c10) ?_
    rintro r25 M' ⟨rfl, b1, b2, b3, b4, b5, b6⟩
    refine oRun_ok 4 rfl ?_
    refine g_aald j rfl rfl rfl hj4 rfl ?_
    refine oRun_ok 1 rfl ?_
    refine g_iret rfl rfl rfl ?_
    rw [show M' 5 (4 * 0 + j) 4 = _ from b1]
    generalize hn : cC (D K_M_now 0) j = n at *
    have hN4 : n_dropk (D K_M_now 0) j i (3 * (n - 1)) (20 + 35 * j + 4) = nI (n - 1) := by
      unfold n_dropk
      rw [if_pos rfl, hn]
    have ec : cC (n_dropk (D K_M_now 0) j i (3 * (n - 1))) j = n - 1 := by
      rw [show cC (n_dropk (D K_M_now 0) j i (3 * (n - 1))) j = (n_dropk (D K_M_now 0) j i (3 * (n - 1)) (20 + 35 * j + 4)).toNatClampNeg from rfl, hN4, nIc (by omega)]
    have hs : ∀ x, x < 20 + 35 * j + 4 ∨ 20 + 35 * j + 5 + 3 * (n - 1) ≤ x → n_dropk (D K_M_now 0) j i (3 * (n - 1)) x = D K_M_now 0 x := by
      intro x hx
      unfold n_dropk
      rw [if_neg (by omega), if_neg (by omega)]
    have hv : ∀ x y, x < n - 1 → y < 3 → n_dropk (D K_M_now 0) j i (3 * (n - 1)) (20 + 35 * j + 5 + 3 * x + y) = D K_M_now 0 (20 + 35 * j + 5 + 3 * (if i ≤ x then x + 1 else x) + y) := by
      intro x y hx h3
      unfold n_dropk
      rw [if_neg (by omega)]
      by_cases z : i ≤ x
      · rw [if_pos (by omega), if_pos z]
        congr 1
        omega
      · rw [if_neg (by omega), if_neg z]
    have hv0 : ∀ x, x < n - 1 → n_dropk (D K_M_now 0) j i (3 * (n - 1)) (20 + 35 * j + 5 + 3 * x) = D K_M_now 0 (20 + 35 * j + 5 + 3 * (if i ≤ x then x + 1 else x)) := fun x hx => hv x 0 hx (by decide)
    refine oQC.deed hI (N' := n_dropk (D K_M_now 0) j i (3 * (n - 1))) (d := j) ?_ hj (fun x hx => hs x (by omega)) b6 (oDOk_c hDo (fun w hw => hs _ (by omega)) ?_ (fun x hx => ?_)) ⟨fun w hw => ?_, fun x hx => ?_⟩
    · refine (if_neg h9).trans ?_
      rw [ej, ei, hn]
    · rw [hN4]
      exact inR_n (m := 10) (by omega) (by decide)
    · rw [ec] at hx
      rw [hv0 x hx, hv x 1 hx (by decide), hv x 2 hx (by decide)]
      exact hDo.2.2.2.2.2 _ (by rw [hn]; split <;> omega)
    · by_cases z : w = 4
      · rw [z, hN4]
        exact b1
      · rw [hs _ (by omega), b2 w z]
        exact r1 w hw
    · rw [ec] at hx
      rw [hv0 x hx, hv x 1 hx (by decide), hv x 2 hx (by decide), b3, b4, b5]
      have e : ∀ f : Nat → Int32, oGone i (n - 1) f x = f (if i ≤ x then x + 1 else x) := by
        intro f
        unfold oGone
        by_cases z : i ≤ x
        · rw [if_pos ⟨z, hx⟩, if_pos z]
        · rw [if_neg (fun q => z q.1), if_neg z]
      rw [e, e, e]
      exact r2 _ (by split <;> omega)
  · refine oRun_ok 1 rfl ?_
    exact g_iret rfl rfl rfl (oQC.same hI (if_pos h9))
theorem q_drop (C M D : oM) (d c : Int32) (hI : oI C D) (hD : oPs D M) : oCt 4 k_Mod_drop [.inr (K_MOD, 0), .inl d, .inl c] M (oQM (s_drop D d c) M) := by
  have hN := hD.now
  refine oCt.of (ls := [some (.inr (K_MOD, 0)), some (.inl d), some (.inl c), none, none, none]) mok_Mod_drop rfl rfl ?_
  refine oRun_ok 3 rfl ?_
  refine g_callV rfl rfl rfl rfl rfl mok_Mod_isCall (by decide) (c_Mod_isCall _ _ _ (by rw [hN]; exact hI.ok)) ?_
  rintro r3 M3 ⟨rfl, e⟩; rw [e]
  rw [hN]
  show oG k_Mod_drop 4 6 _ [.inl (sHC (D K_M_now 0) d c)] _ _
  refine g_if_ne rfl (fun h6 => ?_) (fun h6 => ?_)
  · obtain ⟨j, i, hj, hj4, hi, hi10, rfl, rfl, ej, ei⟩ := oHC_ok hI h6
    have hDo := hI.dok hj
    obtain ⟨hC, c10⟩ := oNC hDo
    have fin : s_drop D (nI j) (nI i) = (nI (cC (D K_M_now 0) j - 1), oSR D K_M_now (n_dropk (D K_M_now 0) j i (3 * (cC (D K_M_now 0) j - 1)))) := (if_neg h6).trans (by rw [ej, ei])
    generalize hn : cC (D K_M_now 0) j = n at *
    refine oRun_ok 3 rfl ?_
    refine g_callV rfl rfl rfl rfl rfl mok_Mod_of (by decide) (c_Mod_of _ j 4 hj4 (by decide)) ?_
    rintro r15 M15 ⟨rfl, e⟩; rw [e]
    rw [hN, hC]
    refine oRun_ok 21 rfl ?_
    rw [show nI n - 1 = nI (n - 1) from nIsub (b := 1) (by omega)]
    refine g_iast (20 + 35 * j + 4) rfl rfl (by simp only [L20, L35, L4, nI_times, nI_plus]) (by omega) ?_
    refine oRun_ok 4 rfl ?_
    rw [show (20 : Int32) + 35 * nI j + 5 = nI (20 + 35 * j + 5) by simp only [L20, L35, L5, nI_times, nI_plus], show (3 : Int32) * nI i = nI (3 * i) by simp only [L3, nI_times]]
    have loop : ∀ (q k : Nat) (M1 : oM), k + q = 3 * (n - 1) → 3 * i ≤ k → M1 K_M_now 0 = n_dropk (D K_M_now 0) j i k → oFr (oKi K_M_now 0) M M1 → oG k_Mod_drop 4 52 [some (.inr (K_MOD, 0)), some (.inl (nI j)), some (.inl (nI i)), some (.inl (nI (n - 1))), some (.inl (nI (20 + 35 * j + 5))), some (.inl (nI k))] [] M1 (oQM (s_drop D (nI j) (nI i)) M) := by
      intro q
      induction q with
      | zero =>
        intro k M1 hk h3 hM hF
        obtain rfl : k = 3 * (n - 1) := by omega
        refine oRun_ok 4 rfl ?_
        rw [show (3 : Int32) * nI (n - 1) = nI (3 * (n - 1)) by simp only [L3, nI_times]]
        refine g_ic_ge rfl (fun _ => ?_) (fun z => absurd (Int32.le_refl _) z)
        refine oRun_ok 1 rfl ?_
        exact g_iret rfl rfl rfl (oQM.row (k := K_M_now) (by decide) hD fin hF hM)
      | succ q ih =>
        intro k M1 hk h3 hM hF
        refine oRun_ok 4 rfl ?_
        rw [show (3 : Int32) * nI (n - 1) = nI (3 * (n - 1)) by simp only [L3, nI_times]]
        refine g_ic_ge rfl (fun z => ?_) (fun _ => ?_)
        · rw [nIle (by omega) (by omega)] at z
          omega
        refine oRun_ok 12 rfl ?_
        refine g_iald (20 + 35 * j + 5 + k + 3) rfl rfl (by simp only [L3, nI_plus]) (by omega) ?_
        refine g_iast (20 + 35 * j + 5 + k) rfl rfl (by simp only [nI_plus]) (by omega) ?_
        refine oRun_ok 2 rfl ?_
        rw [nI_1]
        refine ih (k + 1) _ (by omega) (by omega) ?_ (hF.up ⟨rfl, rfl⟩)
        rw [oUp_upd, hM]
        funext x
        by_cases z : x = 20 + 35 * j + 5 + k
        · subst z
          rw [upd_eq]
          unfold n_dropk
          rw [if_neg (by omega), if_neg (by omega), if_neg (by omega), if_pos (by omega)]
        · rw [upd_ne z]
          unfold n_dropk
          by_cases z1 : x = 20 + 35 * j + 4
          · rw [if_pos z1, if_pos z1]
          · rw [if_neg z1, if_neg z1]
            by_cases z2 : 20 + 35 * j + 5 + 3 * i ≤ x ∧ x < 20 + 35 * j + 5 + k
            · rw [if_pos z2, if_pos (by omega)]
            · rw [if_neg z2, if_neg (by omega)]
    refine loop (3 * (n - 1) - 3 * i) (3 * i) _ (by omega) (Nat.le_refl _) ?_ (oFr.rf.up ⟨rfl, rfl⟩)
    rw [oUp_upd, hN]
    funext x
    unfold n_dropk
    rw [hn]
    by_cases z1 : x = 20 + 35 * j + 4
    · rw [if_pos z1, z1, upd_eq]
    · rw [if_neg z1, upd_ne z1, if_neg (by omega)]
  · refine oRun_ok 1 rfl ?_
    exact g_iret rfl rfl rfl (oQM.same hD (if_pos h6))

