/-! ===== Laws.workOut ===== -/
def oKs (k0 : Nat) : Nat → Nat → Prop := fun k _ => k = k0
theorem top_up (h : Nat) : nI h - 1 + 1 = nI h := Int32.sub_add_cancel _ _
theorem oEv_pos {g c : Nat → Int32} {k : Nat} (h : 0 ≤ c k) : oEv g c (k + 1) = ((oEv g c k).1 + 1, upd (oEv g c k).2 (oEv g c k).1 (if c k < 10000 then c k else g (c k - 10000).toNatClampNeg)) := by
  rw [oEv, if_pos h]
theorem oEv_not {g c : Nat → Int32} {k : Nat} (h : c k = -10) : oEv g c (k + 1) = ((oEv g c k).1, upd (oEv g c k).2 ((oEv g c k).1 - 1) (if (oEv g c k).2 ((oEv g c k).1 - 1) = 0 then 1 else 0)) := by
  rw [oEv, if_neg (by rw [h]; decide), if_pos h]
theorem oEv_two {g c : Nat → Int32} {k : Nat} (h0 : ¬ 0 ≤ c k) (h : ¬ c k = -10) : oEv g c (k + 1) = ((oEv g c k).1 - 1, upd (oEv g c k).2 ((oEv g c k).1 - 2) (f_Mod_two (c k) ((oEv g c k).2 ((oEv g c k).1 - 2)) ((oEv g c k).2 ((oEv g c k).1 - 1)))) := by
  rw [oEv, if_neg h0, if_neg h]
theorem oDp_pos {c : Nat → Int32} {k h : Nat} (hd : oDp c k = some h) (h0 : 0 ≤ c k) : oDp c (k + 1) = some (h + 1) := by
  rw [oDp, hd]
  simp only
  rw [if_pos h0]
theorem oDp_not {c : Nat → Int32} {k h h' : Nat} (hd : oDp c k = some h) (h0 : c k = -10) (h1 : oDp c (k + 1) = some h') : 1 ≤ h ∧ h' = h := by
  rw [oDp, hd] at h1
  simp only at h1
  rw [if_neg (by rw [h0]; decide), if_pos h0] at h1
  by_cases hz : 1 ≤ h
  · rw [if_pos hz] at h1
    cases h1
    exact ⟨hz, rfl⟩
  · rw [if_neg hz] at h1
    cases h1
theorem oDp_two {c : Nat → Int32} {k h h' : Nat} (hd : oDp c k = some h) (h0 : ¬ 0 ≤ c k) (h2 : ¬ c k = -10) (h1 : oDp c (k + 1) = some h') : 2 ≤ h ∧ h' = h - 1 := by
  rw [oDp, hd] at h1
  simp only at h1
  rw [if_neg h0, if_neg h2] at h1
  by_cases hz : 2 ≤ h
  · rw [if_pos hz] at h1
    cases h1
    exact ⟨hz, rfl⟩
  · rw [if_neg hz] at h1
    cases h1
theorem upd_eq {f : Nat → Int32} {k : Nat} {x : Int32} : upd f k x k = x := if_pos rfl
theorem upd_ne {f : Nat → Int32} {k j : Nat} {x : Int32} (h : ¬ j = k) : upd f k x j = f j := if_neg h
set_option maxRecDepth 4000 in
theorem c_Laws_workOut (M : oM) (N g : Nat → Int32) (t i : Nat) (num : Int32) (hT : oTOk N t) (hR : oRT M N t) (ht : t < 14) (g0 : M K_DEED i 2 = g 0) (g1 : tK N t = 1 → M K_DEED i 3 = g 1) (g2 : tK N t = 2 → num = g 1 ∧ M K_DEED i 4 = g 2) :
    oCt 1 k_Laws_workOut [.inr (K_LAWS, 0), .inl (nI t), .inr (K_DEED, i), .inl num] M (fun r M' => r = some (oVal g N t) ∧ oFr (oKs K_LSTK) M M') := by
  obtain ⟨hT1, hT2, hT3, hT4⟩ := hT
  obtain ⟨hR1, hR2, hR3, hR4⟩ := hR
  refine oCt.of (ls := [some (.inr (K_LAWS, 0)), some (.inl (nI t)), some (.inr (K_DEED, i)), some (.inl num), none, none, none, none]) mok_Laws_workOut rfl rfl ?_
  have loop : ∀ (q k h : Nat) (M1 : oM) (x7 : Option oV), k + q = tN N t → oDp (tC N t) k = some h → (∀ j, j < h → M1 K_LSTK 0 j = (oEv g (tC N t) k).2 j) → oFr (oKs K_LSTK) M M1 → oG k_Laws_workOut 1 14 [some (.inr (K_LAWS, 0)), some (.inl (nI t)), some (.inr (K_DEED, i)), some (.inl num), some (.inr (K_TEXT, t)), some (.inl (nI h - 1)), some (.inl (nI k)), x7] [] M1 (fun r M' => r = some (oVal g N t) ∧ oFr (oKs K_LSTK) M M') := by
    intro q
    induction q with
    | zero =>
      intro k h M1 x7 hk hd ha hf
      have hk : k = tN N t := by omega
      subst hk
      have hh : h = 1 := by
        have := hd.symm.trans hT3
        exact Option.some.inj this
      subst hh
      have e2 : M1 K_TEXT t 2 = nI (tN N t) := by rw [hf K_TEXT t (show ¬ K_TEXT = K_LSTK by decide), hR3]
      refine oRun_ok 3 rfl ?_
      refine g_ic_ge rfl (fun h21 => ?_) (fun h21 => ?_)
      · refine oRun_ok 3 rfl ?_
        refine g_iald 0 rfl rfl rfl (by decide) ?_
        exact g_iret rfl rfl rfl ⟨by rw [ha 0 (by decide)]; rfl, hf⟩
      · rw [show M1 19 t 2 = nI (tN N t) from e2] at h21
        exact absurd (Int32.le_refl _) h21
    | succ q ih =>
      intro k h M1 x7 hk hd ha hf
      obtain ⟨hE, hhk⟩ := oDp_h g k h hd
      obtain ⟨h', hd'⟩ := oDp_back (k := k + 1) hT3 (by omega)
      have e2 : M1 K_TEXT t 2 = nI (tN N t) := by rw [hf K_TEXT t (show ¬ K_TEXT = K_LSTK by decide), hR3]
      have ec : M1 K_TCOD t k = M K_TCOD t k := by rw [hf K_TCOD t (show ¬ K_TCOD = K_LSTK by decide)]
      have eD : M1 K_DEED i = M K_DEED i := hf K_DEED i (show ¬ K_DEED = K_LSTK by decide)
      have hcc := hR4 k (by omega)
      rw [← ec] at hcc
      generalize hz : M1 K_TCOD t k = cc at hcc
      have hcc2 := oTr_cases hcc
      refine oRun_ok 3 rfl ?_
      refine g_ic_ge rfl (fun h21 => ?_) (fun h21 => ?_)
      · rw [show M1 19 t 2 = nI (tN N t) from e2, nIle (by omega) (by omega)] at h21
        omega
      refine oRun_ok 3 rfl ?_
      refine g_iald k rfl rfl rfl (by omega) ?_
      rw [show M1 20 t k = cc from hz]
      refine oRun_ok 2 rfl ?_
      rcases hcc2 with ⟨c1, c2, c3⟩ | ⟨c1, c2, c3, c4, c5⟩ | ⟨c1, c2⟩ | ⟨c1, c2, c3, c4, c5, c6⟩
      · -- a number
        have hpos : 0 ≤ tC N t k := by show 0 ≤ N (188 + 96 * t + k); rw [c2]; exact c1
        have hev := oEv_pos (g := g) hpos
        refine g_if_lt rfl (fun h36 => absurd (Int32.lt_of_lt_of_le h36 c1) Int32.lt_irrefl) (fun h36 => ?_)
        refine oRun_ok 5 rfl ?_
        refine g_iast h rfl rfl (top_up h) (by omega) ?_
        refine oRun_ok 3 rfl ?_
        rw [nI_1, show nI h - 1 + 1 = nI (h + 1) - 1 by rw [top_up, nI_pred]]
        refine ih (k + 1) (h + 1) _ _ (by omega) (oDp_pos hd hpos) (fun j hj => ?_) (hf.up rfl)
        rw [hev]
        show oUp M1 21 0 h cc 21 0 j = upd _ _ _ j
        by_cases hjh : j = h
        · subst hjh
          rw [oUp_self, hE, upd_eq, if_pos (show tC N t k < 10000 by show N (188 + 96 * t + k) < 10000; rw [c2]; exact Int32.lt_of_le_of_lt c3 (by decide))]
          exact c2.symm
        · rw [oUp_j hjh, hE, upd_ne hjh]
          exact ha j (by omega)
      · -- a name
        have hev := oEv_pos (g := g) (c := tC N t) (k := k) c2
        refine g_if_lt rfl (fun h36 => ?_) (fun h36 => absurd c1 h36)
        refine oRun_ok 2 rfl ?_
        refine g_callSN rfl rfl rfl rfl mok_Oak_isLetter (by decide) (c_Oak_isLetter M1 _) ?_
        rintro r57 M57 ⟨rfl, e⟩; rw [e]
        refine g_if_eq rfl (fun h60 => absurd h60 c4) (fun h60 => ?_)
        refine oRun_ok 8 rfl ?_
        refine g_callS rfl rfl rfl rfl mok_Laws_named (by decide) (c_Laws_named M1 i _ _) ?_
        rintro r77 M77 ⟨rfl, e⟩; rw [e]
        refine g_iast h rfl rfl (top_up h) (by omega) ?_
        refine oRun_ok 3 rfl ?_
        rw [nI_1, show nI h - 1 + 1 = nI (h + 1) - 1 by rw [top_up, nI_pred]]
        refine ih (k + 1) (h + 1) _ _ (by omega) (oDp_pos hd c2) (fun j hj => ?_) (hf.up rfl)
        rw [hev]
        show oUp M1 21 0 h _ 21 0 j = upd _ _ _ j
        by_cases hjh : j = h
        · subst hjh
          rw [oUp_self, hE, upd_eq, if_neg (show ¬ tC N t k < 10000 from c3)]
          exact c5 M1 i num g (by rw [eD]; exact g0) (fun hk => by rw [eD]; exact g1 hk) (fun hk => by rw [eD]; exact g2 hk)
        · rw [oUp_j hjh, hE, upd_ne hjh]
          exact ha j (by omega)
      · -- not
        obtain ⟨p1, p2⟩ := oDp_not hd (show tC N t k = -10 from c2) hd'
        subst p2
        have hev := oEv_not (g := g) (show tC N t k = -10 from c2)
        refine g_if_lt rfl (fun h36 => ?_) (fun h36 => absurd (show cc < 0 by rw [c1]; decide) h36)
        refine oRun_ok 2 rfl ?_
        refine g_callSN rfl rfl rfl rfl mok_Oak_isLetter (by decide) (c_Oak_isLetter M1 _) ?_
        rintro r57 M57 ⟨rfl, e⟩; rw [e]
        refine g_if_eq rfl (fun h60 => ?_) (fun h60 => absurd (show f_Oak_isLetter (-cc) = 0 by rw [c1]; decide) h60)
        refine oRun_ok 2 rfl ?_
        refine g_ic_ne rfl (fun h88 => absurd c1 h88) (fun h88 => ?_)
        have et : nI h' - 1 = nI (h' - 1) := nIsub (b := 1) p1
        rw [et]
        refine oRun_ok 1 rfl ?_
        refine g_if_lt rfl (fun h93 => absurd h93 (nI_pos (by omega))) (fun h93 => ?_)
        refine oRun_ok 6 rfl ?_
        refine g_iald (h' - 1) rfl rfl rfl (by omega) ?_
        have hval : M1 21 0 (h' - 1) = (oEv g (tC N t) k).2 (h' - 1) := ha (h' - 1) (by omega)
        have fin : ∀ v : Int32, v = (if (oEv g (tC N t) k).2 (h' - 1) = 0 then 1 else 0) → ∀ x7, oG k_Laws_workOut 1 159 [some (.inr (K_LAWS, 0)), some (.inl (nI t)), some (.inr (K_DEED, i)), some (.inl num), some (.inr (K_TEXT, t)), some (.inl (nI (h' - 1))), some (.inl (nI k)), x7] [] (oUp M1 21 0 (h' - 1) v) (fun r M' => r = some (oVal g N t) ∧ oFr (oKs K_LSTK) M M') := by
          intro v hv x7
          refine oRun_ok 2 rfl ?_
          rw [nI_1, ← et]
          refine ih (k + 1) h' _ _ (by omega) hd' (fun j hj => ?_) (hf.up rfl)
          rw [hev]
          show oUp M1 21 0 (h' - 1) v 21 0 j = upd _ _ _ j
          by_cases hjh : j = h' - 1
          · subst hjh
            rw [oUp_self, hE, upd_eq]
            exact hv
          · rw [oUp_j hjh, hE, upd_ne hjh]
            exact ha j (by omega)
        refine g_if_ne rfl (fun h109 => ?_) (fun h109 => ?_)
        · refine oRun_ok 1 rfl ?_
          refine g_iast (h' - 1) rfl rfl rfl (by omega) ?_
          refine oRun_ok 1 rfl ?_
          rw [hval] at h109
          exact fin 0 (by rw [if_neg h109]) _
        · refine oRun_ok 2 rfl ?_
          refine g_iast (h' - 1) rfl rfl rfl (by omega) ?_
          refine oRun_ok 1 rfl ?_
          rw [hval] at h109
          exact fin 1 (by rw [if_pos h109]) _
      · -- a sign between two
        obtain ⟨p1, p2⟩ := oDp_two hd (show ¬ 0 ≤ tC N t k from c4) (show ¬ tC N t k = -10 from c5) hd'
        have hev := oEv_two (g := g) (show ¬ 0 ≤ tC N t k from c4) (show ¬ tC N t k = -10 from c5)
        refine g_if_lt rfl (fun h36 => ?_) (fun h36 => absurd c1 h36)
        refine oRun_ok 2 rfl ?_
        refine g_callSN rfl rfl rfl rfl mok_Oak_isLetter (by decide) (c_Oak_isLetter M1 _) ?_
        rintro r57 M57 ⟨rfl, e⟩; rw [e]
        refine g_if_eq rfl (fun h60 => ?_) (fun h60 => absurd c3 h60)
        refine oRun_ok 2 rfl ?_
        refine g_ic_ne rfl (fun h88 => ?_) (fun h88 => absurd h88 c2)
        have et : nI h - 1 = nI (h - 1) := nIsub (b := 1) (by omega)
        have et2 : nI (h - 1) + -1 = nI (h - 2) := by
          rw [← Int32.sub_eq_add_neg]
          exact nIsub (a := h - 1) (b := 1) (by omega)
        rw [et]
        refine oRun_ok 2 rfl ?_
        refine g_ic_lt rfl (fun h124 => ?_) (fun h124 => ?_)
        · rw [show (1 : Int32) = nI 1 from rfl, nIlt (by omega) (by omega)] at h124
          omega
        refine oRun_ok 9 rfl ?_
        refine g_iald (h - 2) rfl rfl et2 (by omega) ?_
        refine oRun_ok 5 rfl ?_
        refine g_iald (h - 1) rfl rfl (by rw [et2, nI_1, show h - 2 + 1 = h - 1 by omega]) (by omega) ?_
        refine g_callS rfl rfl rfl rfl mok_Laws_joined (by decide) (c_Laws_joined M1 _ _ _) ?_
        rintro r155 M155 ⟨rfl, e⟩; rw [e]
        refine g_iast (h - 2) rfl rfl et2 (by omega) ?_
        refine oRun_ok 2 rfl ?_
        rw [nI_1, et2, show nI (h - 2) = nI (h - 1) - 1 from (nIsub (a := h - 1) (b := 1) (by omega)).symm]
        subst p2
        refine ih (k + 1) (h - 1) _ _ (by omega) hd' (fun j hj => ?_) (hf.up rfl)
        rw [hev]
        show oUp M1 21 0 (h - 2) _ 21 0 j = upd _ _ _ j
        by_cases hjh : j = h - 2
        · subst hjh
          rw [oUp_self, hE, upd_eq]
          show f_Laws_joined (-cc) (M1 21 0 (h - 2)) (M1 21 0 (h - 1)) = _
          rw [c6, show M1 21 0 (h - 2) = _ from ha (h - 2) (by omega), show M1 21 0 (h - 1) = _ from ha (h - 1) (by omega)]
          rfl
        · rw [oUp_j hjh, hE, upd_ne hjh]
          exact ha j (by omega)
  refine oRun_ok 3 rfl ?_
  refine g_aald t rfl rfl rfl ht (Nat.zero_add t).symm ?_
  refine oRun_ok 5 rfl ?_
  exact loop (tN N t) 0 0 M none (by omega) rfl (fun j hj => by omega) oFr.rf
