/-! ===== the model's copy; lay ===== -/
theorem q_copy (C M D : oM) (f p t a m : Int32) (hI : oI C D) (hD : oPs D M) : oCt 3 k_Mod_copy [.inr (K_MOD, 0), .inl f, .inl p, .inl t, .inl a, .inl m] M (oQM (s_copy D f p t a m) M) := by
  have e1 : M 51 0 = D K_M_sorts 0 := hD.1 _ (by decide)
  have e2 : M 52 0 = D K_M_sizes 0 := hD.1 _ (by decide)
  have e3 : M 53 0 = D K_M_cells 0 := hD.1 _ (by decide)
  have t0 : (0 : Int32).toInt = 0 := rfl
  have tail : ∀ i j pn an mn, i < 4 → j < 4 → pn + mn ≤ 24 → an + mn ≤ 24 → s_copy D (nI i) (nI pn) (nI j) (nI an) (nI mn) = (nI mn, oSR D K_M_cells (va_cpy (D K_M_cells 0) (D K_M_cells 0) (24 * i + pn) (24 * j + an) mn)) → oG k_Mod_copy 3 105 [some (.inr (K_MOD, 0)), some (.inl (nI i)), some (.inl (nI pn)), some (.inl (nI j)), some (.inl (nI an)), some (.inl (nI mn)), some (.inl 0)] [] M (oQM (s_copy D (nI i) (nI pn) (nI j) (nI an) (nI mn)) M) := by
    intro i j pn an mn hi hj hp ha hs
    have loop2 : ∀ (q k : Nat) (M1 : oM), k + q = mn → (∀ x, x < mn → M1 K_M_moved 0 x = D K_M_cells 0 (24 * i + pn + x)) → M1 K_M_cells 0 = va_cpy (D K_M_cells 0) (D K_M_cells 0) (24 * i + pn) (24 * j + an) k → oFr (fun k' i' => i' = 0 ∧ (k' = K_M_cells ∨ k' = K_M_moved)) M M1 → oG k_Mod_copy 3 142 [some (.inr (K_MOD, 0)), some (.inl (nI i)), some (.inl (nI pn)), some (.inl (nI j)), some (.inl (nI an)), some (.inl (nI mn)), some (.inl (nI k))] [] M1 (oQM (s_copy D (nI i) (nI pn) (nI j) (nI an) (nI mn)) M) := by
      intro q
      induction q with
      | zero =>
        intro k M1 hk h1 h2 hF
        obtain rfl : k = mn := by omega
        refine oRun_ok 2 rfl ?_
        refine g_ic_ge rfl (fun h146 => ?_) (fun h146 => ?_)
        · refine oRun_ok 1 rfl ?_
          refine g_iret rfl rfl rfl ?_
          have eM : M1 K_MOD 0 = M K_MOD 0 := hF K_MOD 0 (fun q => absurd q.2 (by decide))
          refine oQM.of hs (oPs_row (k := K_M_cells) (by decide) hD (hF.mono (fun k i q => ?_)) (by rw [eM]) (by rw [eM]) (by rw [eM]) h2) (hF.mono (fun k i q => ?_))
          · rcases q.2 with z | z
            · exact Or.inr z
            · exact Or.inl (by rw [z]; show _ ∨ _; simp)
          · rcases q.2 with z | z <;> rw [z] <;> exact ⟨by decide, by decide⟩
        · exact absurd (Int32.le_refl _) h146
      | succ q ih =>
        intro k M1 hk h1 h2 hF
        refine oRun_ok 2 rfl ?_
        refine g_ic_ge rfl (fun h146 => ?_) (fun h146 => ?_)
        · rw [nIle (by omega) (by omega)] at h146
          omega
        · refine oRun_ok 12 rfl ?_
          refine g_iald k rfl rfl rfl (by omega) ?_
          rw [show M1 58 0 k = _ from h1 k (by omega)]
          refine g_iast (24 * j + an + k) rfl rfl (by simp only [L24, nI_times, nI_plus]) (by omega) ?_
          refine oRun_ok 2 rfl ?_
          rw [nI_1]
          refine ih (k + 1) _ (by omega) (fun x hx => ?_) ?_ (hF.up ⟨rfl, Or.inl rfl⟩)
          · rw [oUp_k (by decide)]
            exact h1 x hx
          · rw [oUp_upd, h2]
            funext x
            unfold va_cpy
            by_cases z : x = 24 * j + an + k
            · rw [z, upd_eq, if_pos (by omega)]
              congr 1
              omega
            · rw [upd_ne z]
              by_cases y : 24 * j + an ≤ x ∧ x < 24 * j + an + k
              · rw [if_pos y, if_pos (by omega)]
              · rw [if_neg y, if_neg (by omega)]
    have loop1 : ∀ (q k : Nat) (M1 : oM), k + q = mn → (∀ x, x < k → M1 K_M_moved 0 x = D K_M_cells 0 (24 * i + pn + x)) → oFr (fun k' i' => i' = 0 ∧ k' = K_M_moved) M M1 → oG k_Mod_copy 3 105 [some (.inr (K_MOD, 0)), some (.inl (nI i)), some (.inl (nI pn)), some (.inl (nI j)), some (.inl (nI an)), some (.inl (nI mn)), some (.inl (nI k))] [] M1 (oQM (s_copy D (nI i) (nI pn) (nI j) (nI an) (nI mn)) M) := by
      intro q
      induction q with
      | zero =>
        intro k M1 hk h1 hF
        obtain rfl : k = mn := by omega
        refine oRun_ok 2 rfl ?_
        refine g_ic_ge rfl (fun h109 => ?_) (fun h109 => ?_)
        · refine oRun_ok 2 rfl ?_
          refine loop2 k 0 M1 (by omega) h1 ?_ (hF.mono (fun k i q => ⟨q.1, Or.inr q.2⟩))
          rw [show M1 K_M_cells 0 = M 53 0 from hF _ _ (fun q => absurd q.2 (by decide)), e3]
          funext x
          unfold va_cpy
          rw [if_neg (by omega)]
        · exact absurd (Int32.le_refl _) h109
      | succ q ih =>
        intro k M1 hk h1 hF
        refine oRun_ok 2 rfl ?_
        refine g_ic_ge rfl (fun h109 => ?_) (fun h109 => ?_)
        · rw [nIle (by omega) (by omega)] at h109
          omega
        · refine oRun_ok 12 rfl ?_
          refine g_iald (24 * i + pn + k) rfl rfl (by simp only [L24, nI_times, nI_plus]) (by omega) ?_
          rw [show M1 53 0 = M 53 0 from hF _ _ (fun q => absurd q.2 (by decide)), e3]
          refine g_iast k rfl rfl rfl (by omega) ?_
          refine oRun_ok 2 rfl ?_
          rw [nI_1]
          refine ih (k + 1) _ (by omega) (fun x hx => ?_) (hF.up ⟨rfl, rfl⟩)
          by_cases z : x = k
          · rw [z]
            exact oUp_self
          · refine (oUp_j z).trans ?_
            exact h1 x (by omega)
    exact loop1 mn 0 M (by omega) (fun x hx => absurd hx (by omega)) oFr.rf
  refine oCt.of (ls := [some (.inr (K_MOD, 0)), some (.inl f), some (.inl p), some (.inl t), some (.inl a), some (.inl m), none]) mok_Mod_copy rfl rfl ?_
  refine oRun_ok 1 rfl ?_
  refine g_callS rfl rfl rfl rfl mok_Mod_isSheet (by decide) (c_Mod_isSheet _ _) ?_
  rintro r1 M1 ⟨rfl, e⟩; rw [e]
  refine g_if_eq rfl (fun h4 => ?_) (fun h4 => ?_)
  · refine oRun_ok 1 rfl ?_
    exact g_iret rfl rfl rfl (oQM.same hD (if_pos h4))
  · refine oRun_ok 1 rfl ?_
    refine g_callS rfl rfl rfl rfl mok_Mod_isSheet (by decide) (c_Mod_isSheet _ _) ?_
    rintro r8 M8 ⟨rfl, e⟩; rw [e]
    refine g_if_ne rfl (fun h11 => ?_) (fun h11 => ?_)
    · obtain ⟨i, hi, rfl, ei⟩ := sheet_in h4
      obtain ⟨j, hj, rfl, ej⟩ := sheet_in h11
      obtain ⟨a1, a2, a3, a4, a5⟩ := hI.sheet i hi
      obtain ⟨b1, b2, b3, b4, b5⟩ := hI.sheet j hj
      have ng : ∀ v : Int32, inR v (-1) 1 → (v < 0 ↔ v = -1) := by
        intro v hv
        rcases sort3 hv with rfl | rfl | rfl <;> decide
      have z1 := a4.1
      have z1' := a4.2
      have z2 := b4.1
      have z2' := b4.2
      refine oRun_ok 3 rfl ?_
      refine g_iald i rfl rfl rfl (by omega) ?_
      rw [e1]
      refine g_if_lt rfl (fun h23 => ?_) (fun h23 => ?_)
      · rw [ng _ a3] at h23
        refine oRun_ok 1 rfl ?_
        exact g_iret rfl rfl rfl (oQM.same hD ((if_neg h4).trans ((if_neg h11).trans (if_pos (by rw [ei]; exact h23)))))
      · rw [ng _ a3] at h23
        refine oRun_ok 3 rfl ?_
        refine g_iald j rfl rfl rfl (by omega) ?_
        rw [e1]
        refine g_if_ge rfl (fun h32 => ?_) (fun h32 => ?_)
        · have h32 : ¬ D K_M_sorts 0 j = -1 := fun z => absurd ((ng _ b3).mpr z) (Int32.not_lt.mpr h32)
          refine oRun_ok 3 rfl ?_
          refine g_iald i rfl rfl rfl (by omega) ?_
          refine oRun_ok 3 rfl ?_
          refine g_iald j rfl rfl rfl (by omega) ?_
          rw [e1]
          refine g_ic_eq rfl (fun h51 => ?_) (fun h51 => ?_)
          · have bad : ¬ (¬ sRun (D K_M_sizes 0 i) p m = 0 ∧ ¬ sRun (D K_M_sizes 0 j) a m = 0) → s_copy D (nI i) p (nI j) a m = (vINDEX, D) := by
              intro h
              refine (if_neg h4).trans ((if_neg h11).trans ((if_neg (by rw [ei]; exact h23)).trans ((if_neg (by rw [ej]; exact h32)).trans ((if_pos (by rw [ei, ej]; exact h51)).trans ?_))))
              rw [ei, ej]
              by_cases y : sRun (D K_M_sizes 0 i) p m = 0
              · exact if_pos y
              · refine (if_neg y).trans (if_pos ?_)
                exact Decidable.byContradiction (fun z => h ⟨y, z⟩)
            rw [sRun_ok a4, sRun_ok b4] at bad
            refine oRun_ok 1 rfl ?_
            refine g_if_lt rfl (fun h58 => ?_) (fun h58 => ?_)
            · refine oRun_ok 1 rfl ?_
              exact g_iret rfl rfl rfl (oQM.same hD (bad (by have := iLt.mp h58; omega)))
            · refine oRun_ok 1 rfl ?_
              refine g_if_lt rfl (fun h63 => ?_) (fun h63 => ?_)
              · refine oRun_ok 1 rfl ?_
                exact g_iret rfl rfl rfl (oQM.same hD (bad (by have := iLt.mp h63; omega)))
              · refine oRun_ok 1 rfl ?_
                refine g_if_lt rfl (fun h68 => ?_) (fun h68 => ?_)
                · refine oRun_ok 1 rfl ?_
                  exact g_iret rfl rfl rfl (oQM.same hD (bad (by have := iLt.mp h68; omega)))
                · have q1 := iLe.mp (Int32.not_lt.mp h58)
                  have q2 := iLe.mp (Int32.not_lt.mp h63)
                  have q3 := iLe.mp (Int32.not_lt.mp h68)
                  have rm := iRng m
                  rw [t0] at q1 q2 q3
                  have s1 : (D K_M_sizes 0 i - m).toInt = (D K_M_sizes 0 i).toInt - m.toInt := iSub (by omega)
                  have s2 : (D K_M_sizes 0 j - m).toInt = (D K_M_sizes 0 j).toInt - m.toInt := iSub (by omega)
                  refine oRun_ok 4 rfl ?_
                  refine g_iald i rfl rfl rfl (by omega) ?_
                  rw [e2]
                  refine oRun_ok 2 rfl ?_
                  refine g_ic_gt rfl (fun h81 => ?_) (fun h81 => ?_)
                  · refine oRun_ok 1 rfl ?_
                    exact g_iret rfl rfl rfl (oQM.same hD (bad (by have := iLt.mp h81; rw [s1] at this; omega)))
                  · refine oRun_ok 4 rfl ?_
                    refine g_iald j rfl rfl rfl (by omega) ?_
                    rw [e2]
                    refine oRun_ok 2 rfl ?_
                    refine g_ic_le rfl (fun h95 => ?_) (fun h95 => ?_)
                    · have u1 := iLe.mp (Int32.not_lt.mp h81)
                      have u2 := iLe.mp h95
                      rw [s1] at u1
                      rw [s2] at u2
                      have good : s_copy D (nI i) p (nI j) a m = (m, oSR D K_M_cells (va_cpy (D K_M_cells 0) (D K_M_cells 0) (24 * i + p.toNatClampNeg) (24 * j + a.toNatClampNeg) m.toNatClampNeg)) := by
                        refine (if_neg h4).trans ((if_neg h11).trans ((if_neg (by rw [ei]; exact h23)).trans ((if_neg (by rw [ej]; exact h32)).trans ((if_pos (by rw [ei, ej]; exact h51)).trans ((if_neg ?_).trans ((if_neg ?_).trans ?_))))))
                        · rw [ei]
                          exact (sRun_ok a4).mpr (by omega)
                        · rw [ej]
                          exact (sRun_ok b4).mpr (by omega)
                        · rw [ei, ej]
                      obtain ⟨pn, hpn, rfl⟩ := nI_ex (v := p) (n := 25) q1 (by omega)
                      obtain ⟨an, han, rfl⟩ := nI_ex (v := a) (n := 25) q2 (by omega)
                      obtain ⟨mn, hmn, rfl⟩ := nI_ex (v := m) (n := 25) q3 (by omega)
                      rw [nIc (by omega), nIc (by omega), nIc (by omega)] at good
                      rw [nIt (by omega), nIt (by omega)] at u1
                      rw [nIt (by omega), nIt (by omega)] at u2
                      refine oRun_ok 2 rfl ?_
                      exact tail i j pn an mn hi hj (by omega) (by omega) good
                    · refine oRun_ok 1 rfl ?_
                      exact g_iret rfl rfl rfl (oQM.same hD (bad (by have := iLt.mp (Int32.not_le.mp h95); rw [s2] at this; omega)))
          · refine oRun_ok 1 rfl ?_
            exact g_iret rfl rfl rfl (oQM.same hD ((if_neg h4).trans ((if_neg h11).trans ((if_neg (by rw [ei]; exact h23)).trans ((if_neg (by rw [ej]; exact h32)).trans (if_neg (by rw [ei, ej]; exact h51)))))))
        · have h32 : D K_M_sorts 0 j = -1 := (ng _ b3).mp (Int32.not_le.mp h32)
          refine oRun_ok 1 rfl ?_
          exact g_iret rfl rfl rfl (oQM.same hD ((if_neg h4).trans ((if_neg h11).trans ((if_neg (by rw [ei]; exact h23)).trans (if_pos (by rw [ej]; exact h32))))))
    · refine oRun_ok 1 rfl ?_
      exact g_iret rfl rfl rfl (oQM.same hD ((if_neg h4).trans (if_pos h11)))
-- lay
theorem c_Row_takeFrom (M : oM) (i j : Nat) (hij : ¬ j = i) : oCt 2 k_Row_takeFrom [.inr (K_ROW, i), .inr (K_ROW, j)] M (fun r M' => r = none ∧ M' K_ROW i 0 = M K_ROW j 0 ∧ M' K_ROW i 1 = M K_ROW j 1 ∧ (∀ k, k < 24 → M' K_RPL i k = M K_RPL j k) ∧ oFr (fun k i' => i' = i ∧ (k = K_ROW ∨ k = K_RPL)) M M') := by
  refine oCt.of (ls := [some (.inr (K_ROW, i)), some (.inr (K_ROW, j))]) mok_Row_takeFrom rfl rfl ?_
  refine oRun_ok 15 rfl ?_
  refine g_copy (ps := 923) 0 0 24 rfl (by decide) (by decide) rfl rfl rfl rfl rfl rfl (by decide) (by decide) ?_
  refine g_ret rfl rfl ⟨rfl, ?_, ?_, fun k hk => ?_, fun k i' q => ?_⟩
  · rw [show oCp (oUp (oUp M 26 i 0 (M 26 j 0)) 26 i 1 (oUp M 26 i 0 (M 26 j 0) 26 j 1)) 27 j 27 i 0 0 24 K_ROW i = _ from oCp_ne (fun q => absurd q.1 (by decide))]
    exact (oUp_j (by decide)).trans oUp_self
  · rw [show oCp (oUp (oUp M 26 i 0 (M 26 j 0)) 26 i 1 (oUp M 26 i 0 (M 26 j 0) 26 j 1)) 27 j 27 i 0 0 24 K_ROW i = _ from oCp_ne (fun q => absurd q.1 (by decide))]
    refine oUp_self.trans ?_
    rw [oUp_i hij]
  · rw [show oCp (oUp (oUp M 26 i 0 (M 26 j 0)) 26 i 1 (oUp M 26 i 0 (M 26 j 0) 26 j 1)) 27 j 27 i 0 0 24 K_RPL i = _ from oCp_at]
    unfold va_cpy
    rw [if_pos (by omega), show 0 + (k - 0) = k by omega]
    rfl
  · rw [oCp_ne (fun z => q ⟨z.2, Or.inr z.1⟩)]
    exact ((oFr.rf.up (S := fun k i' => i' = i ∧ (k = K_ROW ∨ k = K_RPL)) ⟨rfl, Or.inl rfl⟩).up ⟨rfl, Or.inl rfl⟩) k i' q
theorem c_Slot_takeCall (M : oM) (i d c : Nat) (hc : c < 10) : oCt 0 k_Slot_takeCall [.inr (K_SLOT, i), .inr (K_DEED, d), .inl (nI c)] M (fun r M' => r = none ∧ M' = oUp (oUp (oUp M K_SLOT i 1 (M K_DK d c)) K_SLOT i 2 (M K_DW d c)) K_SLOT i 3 (M K_DL d c)) := by
  refine oCt.of (ls := [some (.inr (K_SLOT, i)), some (.inr (K_DEED, d)), some (.inl (nI c))]) mok_Slot_takeCall rfl rfl ?_
  refine oRun_ok 4 rfl ?_
  refine g_iald c rfl rfl rfl (by omega) ?_
  refine oRun_ok 5 rfl ?_
  refine g_iald c rfl rfl rfl (by omega) ?_
  refine oRun_ok 5 rfl ?_
  refine g_iald c rfl rfl rfl (by omega) ?_
  refine oRun_ok 1 rfl ?_
  exact g_ret rfl rfl ⟨rfl, rfl⟩
def I_slot1 (C D : oM) (i : Nat) : Prop := C K_SLOT i 0 = D K_M_holdsWhat 0 i ∧ inR (D K_M_holdsWhat 0 i) 0 3 ∧ (D K_M_holdsWhat 0 i = 1 → C K_SLOT i 1 = D K_M_holdsA 0 i ∧ inR (D K_M_holdsA 0 i) 0 5 ∧ D K_M_holdsB 0 i = f_Oak_worthOf (C K_SLOT i 1) (C K_SLOT i 2) (C K_SLOT i 3)) ∧ (D K_M_holdsWhat 0 i = 2 → C K_ROW (i + 4) 1 = D K_M_holdsA 0 i ∧ inR (D K_M_holdsA 0 i) 0 24 ∧ ∀ k, k < 24 → C K_RPL (i + 4) k = D K_M_heldCells 0 (24 * i + k)) ∧ (D K_M_holdsWhat 0 i = 3 → C K_SLOT i 4 = D K_M_holdsA 0 i)
theorem oI.slot' {M M' D D' : oM} {s : Nat} (hI : oI M D) (hs : s < 5) (hF : oFr (fun k i' => (k = K_SLOT ∧ i' = s) ∨ (i' = s + 4 ∧ (k = K_ROW ∨ k = K_RPL))) M M') (dd : ∀ k, ¬ (k = K_M_holdsWhat ∨ k = K_M_holdsA ∨ k = K_M_holdsB ∨ k = K_M_heldCells) → D' k = D k) (dx : ∀ x, ¬ x = s → D' K_M_holdsWhat 0 x = D K_M_holdsWhat 0 x ∧ D' K_M_holdsA 0 x = D K_M_holdsA 0 x ∧ D' K_M_holdsB 0 x = D K_M_holdsB 0 x ∧ ∀ k, k < 24 → D' K_M_heldCells 0 (24 * x + k) = D K_M_heldCells 0 (24 * x + k)) (h1 : I_slot1 M' D' s) : oI M' D' := by
  have ek : ∀ k, ¬ (k = K_SLOT ∨ k = K_ROW ∨ k = K_RPL) → ∀ i, M' k i = M k i := fun k hk i => hF k i (fun q => hk (by
    rcases q with q | q
    · exact Or.inl q.1
    · exact Or.inr q.2))
  have er : ∀ k, (k = K_ROW ∨ k = K_RPL) → ∀ i, ¬ i = s + 4 → M' k i = M k i := fun k hk i hi => hF k i (fun q => by
    rcases q with q | q
    · rcases hk with z | z <;> rw [z] at q <;> exact absurd q.1 (by decide)
    · exact hi q.1)
  have es : ∀ i, ¬ i = s → M' K_SLOT i = M K_SLOT i := fun i hi => hF K_SLOT i (fun q => by
    rcases q with q | q
    · exact hi q.2
    · exact absurd q.2 (by decide))
  have kp : oKp M M' := fun k hk i => ek k ((by decide : ∀ k ∈ oRLk, ¬ (k = K_SLOT ∨ k = K_ROW ∨ k = K_RPL)) k hk) i
  refine ⟨hI.1.cg kp (by rw [dd _ (by decide)]), hI.img.cg kp (by rw [ek _ (by decide)]) (by rw [dd _ (by decide)]) (by rw [dd _ (by decide)]) (by rw [dd _ (by decide)]), hI.tape.cg (by rw [ek _ (by decide)]) (by rw [ek _ (by decide)]) (by rw [dd _ (by decide)]) (by rw [dd _ (by decide)]), hI.sheet.cg (fun x hx => ⟨er _ (Or.inl rfl) _ (by omega), er _ (Or.inr rfl) _ (by omega)⟩) (by rw [dd _ (by decide)]) (by rw [dd _ (by decide)]) (by rw [dd _ (by decide)]), fun x hx => ?_, hI.wait.cg (by rw [ek _ (by decide)]) (by rw [ek _ (by decide)]) (by rw [dd _ (by decide)]) (by rw [dd _ (by decide)]), hI.con.cg (by rw [dd _ (by decide)]) (by rw [dd _ (by decide)])⟩
  by_cases z : x = s
  · rw [z]
    exact h1
  · obtain ⟨w1, w2, w3, w4⟩ := dx x z
    obtain ⟨g1, g2, g3, g4, g5⟩ := hI.slot x hx
    rw [w1, w2, w3, es x z, er K_ROW (Or.inl rfl) _ (by omega), er K_RPL (Or.inr rfl) _ (by omega)]
    refine ⟨g1, g2, g3, fun h => ⟨(g4 h).1, (g4 h).2.1, fun k hk => ?_⟩, g5⟩
    rw [w4 k hk]
    exact (g4 h).2.2 k hk
theorem oSlot_cls {s : Nat} {M M' : oM} (hF : oFr (fun k i' => (k = K_SLOT ∧ i' = s) ∨ (i' = s + 4 ∧ (k = K_ROW ∨ k = K_RPL))) M M') : oFr oCls M M' := hF.mono (fun k i q => by
  show k < 31
  rcases q with q | q
  · rw [q.1]; decide
  · rcases q.2 with h | h <;> rw [h] <;> decide)
def D_lay (D : oM) (s : Nat) (t a b : Int32) : oM := oUp (oUp (oUp D K_M_holdsWhat 0 s t) K_M_holdsA 0 s a) K_M_holdsB 0 s b
def f_hc (f g : Nat → Int32) (s k n : Nat) : Nat → Int32 := fun j => if 24 * s ≤ j ∧ j < 24 * s + n then g (24 * k + (j - 24 * s)) else f j
def s_lay (D : oM) (s t k : Int32) : Int32 × oM := if f_Oak_isSlot s = 0 then (vBAD, D) else if f_Oak_isWithin t 0 3 = 0 then (vBAD, D)
  else if t = 1 then (if k < 0 then (vBAD, D) else if sHC (D K_M_now 0) (k / 100) (oRem k 100) = 0 then (vBAD, D) else (D K_M_holdsWhat 0 s.toNatClampNeg, D_lay D s.toNatClampNeg 1 (D K_M_now 0 (20 + 35 * (k / 100).toNatClampNeg + 5 + 3 * (oRem k 100).toNatClampNeg)) (f_Oak_worthOf (D K_M_now 0 (20 + 35 * (k / 100).toNatClampNeg + 5 + 3 * (oRem k 100).toNatClampNeg)) (D K_M_now 0 (20 + 35 * (k / 100).toNatClampNeg + 5 + 3 * (oRem k 100).toNatClampNeg + 1)) (D K_M_now 0 (20 + 35 * (k / 100).toNatClampNeg + 5 + 3 * (oRem k 100).toNatClampNeg + 2)))))
  else if t = 2 then (if f_Oak_isSheet k = 0 then (vBAD, D) else if D K_M_sorts 0 k.toNatClampNeg = -1 then (vNOTHING, D) else (D K_M_holdsWhat 0 s.toNatClampNeg, oSR (D_lay D s.toNatClampNeg 2 (D K_M_sizes 0 k.toNatClampNeg) 0) K_M_heldCells (f_hc (D K_M_heldCells 0) (D K_M_cells 0) s.toNatClampNeg k.toNatClampNeg 24)))
  else (D K_M_holdsWhat 0 s.toNatClampNeg, D_lay D s.toNatClampNeg t k 0)
theorem D_lay_dd {D : oM} {s : Nat} {t a b : Int32} {k : Nat} (h : ¬ (k = K_M_holdsWhat ∨ k = K_M_holdsA ∨ k = K_M_holdsB ∨ k = K_M_heldCells)) : D_lay D s t a b k = D k := by
  unfold D_lay
  rw [oUp_k (fun z => h (Or.inr (Or.inr (Or.inl z)))), oUp_k (fun z => h (Or.inr (Or.inl z))), oUp_k (fun z => h (Or.inl z))]
theorem D_lay_w {D : oM} {s : Nat} {t a b : Int32} : D_lay D s t a b K_M_holdsWhat 0 = upd (D K_M_holdsWhat 0) s t := by
  unfold D_lay
  rw [oUp_k (by decide), oUp_k (by decide), oUp_upd]
theorem D_lay_a {D : oM} {s : Nat} {t a b : Int32} : D_lay D s t a b K_M_holdsA 0 = upd (D K_M_holdsA 0) s a := by
  unfold D_lay
  rw [oUp_k (by decide), oUp_upd, oUp_k (by decide)]
theorem D_lay_b {D : oM} {s : Nat} {t a b : Int32} : D_lay D s t a b K_M_holdsB 0 = upd (D K_M_holdsB 0) s b := by
  unfold D_lay
  rw [oUp_upd, oUp_k (by decide), oUp_k (by decide)]
theorem D_lay_c {D : oM} {s : Nat} {t a b : Int32} : D_lay D s t a b K_M_heldCells = D K_M_heldCells := by
  unfold D_lay
  rw [oUp_k (by decide), oUp_k (by decide), oUp_k (by decide)]
theorem D_lay_x {D : oM} {s : Nat} {t a b : Int32} (x : Nat) (hx : ¬ x = s) : D_lay D s t a b K_M_holdsWhat 0 x = D K_M_holdsWhat 0 x ∧ D_lay D s t a b K_M_holdsA 0 x = D K_M_holdsA 0 x ∧ D_lay D s t a b K_M_holdsB 0 x = D K_M_holdsB 0 x ∧ ∀ k, k < 24 → D_lay D s t a b K_M_heldCells 0 (24 * x + k) = D K_M_heldCells 0 (24 * x + k) := by
  rw [D_lay_w, D_lay_a, D_lay_b, D_lay_c, upd_ne hx, upd_ne hx, upd_ne hx]
  exact ⟨rfl, rfl, rfl, fun _ _ => rfl⟩

