/-! ===== Walk: gaps ===== -/
/-- what a gap leaves of the walker: all but where it stands -/
def oWk8 (M M' : oM) (w : Nat) : Prop := ∀ j, j < 8 → M' K_WALK w j = M K_WALK w j
theorem oSO_8 {f : Nat → Int32} {bx b2 nd ch : Int32} {j : Nat} (h : j < 8) : oSO f bx b2 nd ch j = f j := by
  unfold oSO
  rw [if_neg (by omega), if_neg (by omega), if_neg (by omega), if_neg (by omega), if_neg (by omega), if_neg (by omega)]
def oWg (w : Nat) : Nat → Nat → Prop := oKi K_WALK w
theorem oWg_kp (w : Nat) : ∀ k ∈ oRLk, ∀ i, ¬ oKi K_WALK w k i := by
  intro k hk i h
  have := h.1
  subst this
  revert hk
  decide
def Q_gapBy (M : oM) (N : Nat → Int32) (w d : Nat) (nd ch : Int32) : Option Int32 → oM → Prop := fun r M' => r = some (sGap N d nd ch) ∧ oWk8 M M' w ∧ M' K_WALK w 10 = nd ∧ M' K_WALK w 11 = ch ∧ oFr (oKi K_WALK w) M M'
theorem c_Walk_gapBy (M : oM) (N : Nat → Int32) (w d nd : Nat) (ch : Int32) (hN : oNOk N) (hL : oRL M N w) (hd : d < cD N) (hnd : nd < 8) : oCt 3 k_Walk_gapBy [.inr (K_WALK, w), .inl (nI d), .inl (nI nd), .inl ch] M (Q_gapBy M N w d (nI nd) ch) := by
  obtain ⟨-, d4⟩ := oND hN
  have hDo := hN.2.2.2.2.1 d hd
  obtain ⟨hC, hC10⟩ := oNC hDo
  refine oCt.of (ls := [some (.inr (K_WALK, w)), some (.inl (nI d)), some (.inl (nI nd)), some (.inl ch), none, none]) mok_Walk_gapBy rfl rfl ?_
  refine oRun_ok 4 rfl ?_
  refine g_aald d rfl rfl rfl (by omega) rfl ?_
  refine oRun_ok 5 rfl ?_
  refine g_callV rfl rfl rfl rfl rfl mok_Walk_setOut (by decide) (c_Walk_setOut M w (4 * w + d) _ _) ?_
  rintro r16 M16 ⟨rfl, e16, f16⟩
  have D0 := (hL.2.2.2.2.2.1 d hd).1
  have e16' := e16
  rw [D0 0 (by decide), D0 1 (by decide)] at e16
  have loop : ∀ (q j : Nat) (M1 : oM), j + q = cC N d → oAt M1 w (N (20 + 35 * d)) (N (20 + 35 * d + 1)) (nI nd) ch (sC N d (nI nd) ch j) → oWk8 M M1 w → oFr (oKi K_WALK w) M M1 → oG k_Walk_gapBy 3 22 [some (.inr (K_WALK, w)), some (.inl (nI d)), some (.inl (nI nd)), some (.inl ch), some (.inr (K_DEED, 4 * w + d)), some (.inl (nI j))] [] M1 (Q_gapBy M N w d (nI nd) ch) := by
    intro q
    induction q with
    | zero =>
      intro j M1 hj ha h8 hf
      have hj : j = cC N d := by omega
      subst hj
      have L1 := oRL_kp (hf.kp (oWg_kp w)) hL
      have ec : M1 5 (4 * w + d) 4 = nI (cC N d) := ((L1.2.2.2.2.2.1 d hd).1 4 (by decide)).trans hC
      refine oRun_ok 3 rfl ?_
      rw [ec]
      refine g_ic_ge rfl (fun h29 => ?_) (fun h29 => absurd (Int32.le_refl _) h29)
      refine oRun_ok 1 rfl ?_
      refine g_callV rfl rfl rfl rfl rfl mok_Walk_gapHere (by decide) (c_Walk_gapHere M1 w) ?_
      rintro r67 M67 ⟨rfl, e⟩; rw [e]
      obtain ⟨a1, a2, a3, a4, a5, a6⟩ := ha
      refine g_iret rfl rfl rfl ⟨?_, h8, a3, a4, hf⟩
      rw [a1, a2, a5, a6]
      rfl
    | succ q ih =>
      intro j M1 hj ha h8 hf
      have L1 := oRL_kp (hf.kp (oWg_kp w)) hL
      have D1 := L1.2.2.2.2.2.1 d hd
      have ec : M1 5 (4 * w + d) 4 = nI (cC N d) := (D1.1 4 (by decide)).trans hC
      obtain ⟨kd, wy, ln, b1, b2, b3, e1, e2, e3⟩ := oCall_ok hDo (show j < cC N d by omega)
      obtain ⟨g1, g2, g3⟩ := D1.2 j (by omega)
      refine oRun_ok 3 rfl ?_
      rw [ec]
      refine g_ic_ge rfl (fun h29 => ?_) (fun h29 => ?_)
      · rw [nIle (by omega) (by omega)] at h29
        omega
      refine oRun_ok 4 rfl ?_
      refine g_iald j rfl rfl rfl (by omega) ?_
      refine oRun_ok 3 rfl ?_
      refine g_iald j rfl rfl rfl (by omega) ?_
      refine oRun_ok 3 rfl ?_
      refine g_iald j rfl rfl rfl (by omega) ?_
      rw [show M1 6 (4 * w + d) j = nI kd from g1.trans e1, show M1 7 (4 * w + d) j = nI wy from g2.trans e2, show M1 8 (4 * w + d) j = nI ln from g3.trans e3]
      refine g_callV rfl rfl rfl rfl rfl mok_Walk_goOn (by decide) (c_go M1 N w kd wy ln nd _ _ _ _ hN L1 b1 (by omega) b3 hnd ha) ?_
      rintro r57 M57 ⟨rfl, a57, f57, k57⟩
      rw [rem8_id b2, ← e1, ← e2, ← e3] at a57
      refine oRun_ok 2 rfl ?_
      rw [nI_1]
      exact ih (j + 1) M57 (by omega) a57 (fun i hi => (k57 i hi).trans (h8 i hi)) (hf.tr f57)
  refine oRun_ok 2 rfl ?_
  exact loop (cC N d) 0 M16 (by omega) (oAt_out e16) (fun j hj => by rw [e16', oSO_8 hj]) f16
-- slips: 1 a call left out, 2 its way turned about, 3 exchanged with the next
def sSl (s c : Nat) (f : Nat → Int32) : Nat → Int32 := fun k => if s = 1 then (if k < c then f k else f (k + 1)) else if s = 3 then (if k = c then f (c + 1) else if k = c + 1 then f c else f k) else f k
def sSw (s c : Nat) (f : Nat → Int32) : Nat → Int32 := fun k => if s = 2 then (if k = c then oRem (f k + 4) 8 else f k) else sSl s c f k
def sSn (s n : Nat) : Nat := if s = 1 then n - 1 else n
def sCS (N : Nat → Int32) (d : Nat) (nd ch : Int32) (s c : Nat) : Nat → Int32 × Int32 := sCor N (N (20 + 35 * d)) (N (20 + 35 * d + 1)) nd ch (sSl s c (kA N d)) (sSw s c (wA N d)) (sSl s c (lA N d))
def sGapS (N : Nat → Int32) (d : Nat) (nd ch : Int32) (s c : Nat) : Int32 := sGapP (N (20 + 35 * d)) (N (20 + 35 * d + 1)) (sCS N d nd ch s c (sSn s (cC N d)))
/-- which call stands at place j with a slip -/
def sFrom (s c j : Nat) : Nat := if s = 3 then (if j = c then c + 1 else if j = c + 1 then c else j) else j
def Q_gapS (M : oM) (N : Nat → Int32) (w d : Nat) (nd ch : Int32) (s c : Nat) : Option Int32 → oM → Prop := fun r M' => r = some (sGapS N d nd ch s c) ∧ oWk8 M M' w ∧ M' K_WALK w 10 = nd ∧ M' K_WALK w 11 = ch ∧ oFr (oKi K_WALK w) M M'
theorem c_Walk_gapWithSlip (M : oM) (N : Nat → Int32) (w d nd s c : Nat) (ch : Int32) (hN : oNOk N) (hL : oRL M N w) (hd : d < cD N) (hnd : nd < 8) (hnM : M K_WALK w 10 = nI nd) (hcM : M K_WALK w 11 = ch) (hs : 1 ≤ s ∧ s ≤ 3) (hc : c < cC N d) (hc3 : s = 3 → c + 1 < cC N d) : oCt 3 k_Walk_gapWithSlip [.inr (K_WALK, w), .inr (K_DEED, 4 * w + d), .inl (nI s), .inl (nI c)] M (Q_gapS M N w d (nI nd) ch s c) := by
  obtain ⟨-, d4⟩ := oND hN
  have hDo := hN.2.2.2.2.1 d hd
  obtain ⟨hC, hC10⟩ := oNC hDo
  refine oCt.of (ls := [some (.inr (K_WALK, w)), some (.inr (K_DEED, 4 * w + d)), some (.inl (nI s)), some (.inl (nI c)), none, none, none]) mok_Walk_gapWithSlip rfl rfl ?_
  refine oRun_ok 6 rfl ?_
  rw [show M 9 w 10 = nI nd from hnM, show M 9 w 11 = ch from hcM]
  refine g_callV rfl rfl rfl rfl rfl mok_Walk_setOut (by decide) (c_Walk_setOut M w (4 * w + d) _ _) ?_
  rintro r10 M10 ⟨rfl, e10, f10⟩
  have D0 := (hL.2.2.2.2.2.1 d hd).1
  have e10' := e10
  rw [D0 0 (by decide), D0 1 (by decide)] at e10
  have kn : ∀ a b : Nat, a < 100 → b < 100 → (nI a = nI b ↔ a = b) := fun a b ha hb => nIe (by omega) (by omega)
  -- how many steps are done before place j
  have loop : ∀ (q j : Nat) (M1 : oM) (x5 x6 : Option oV), j + q = cC N d → oAt M1 w (N (20 + 35 * d)) (N (20 + 35 * d + 1)) (nI nd) ch (sCS N d (nI nd) ch s c (if s = 1 ∧ c < j then j - 1 else j)) → oWk8 M M1 w → oFr (oKi K_WALK w) M M1 → oG k_Walk_gapWithSlip 3 16 [some (.inr (K_WALK, w)), some (.inr (K_DEED, 4 * w + d)), some (.inl (nI s)), some (.inl (nI c)), some (.inl (nI j)), x5, x6] [] M1 (Q_gapS M N w d (nI nd) ch s c) := by
    intro q
    induction q with
    | zero =>
      intro j M1 x5 x6 hj ha h8 hf
      have L1 := oRL_kp (hf.kp (oWg_kp w)) hL
      have ec : M1 5 (4 * w + d) 4 = nI (cC N d) := ((L1.2.2.2.2.2.1 d hd).1 4 (by decide)).trans hC
      refine oRun_ok 3 rfl ?_
      rw [ec]
      refine g_ic_ge rfl (fun h22 => ?_) (fun h22 => ?_)
      · refine oRun_ok 1 rfl ?_
        refine g_callV rfl rfl rfl rfl rfl mok_Walk_gapHere (by decide) (c_Walk_gapHere M1 w) ?_
        rintro r148 M148 ⟨rfl, e⟩; rw [e]
        have hn : (if s = 1 ∧ c < j then j - 1 else j) = sSn s (cC N d) := by
          unfold sSn
          by_cases h1 : s = 1
          · rw [if_pos h1, if_pos ⟨h1, by omega⟩]; omega
          · rw [if_neg h1, if_neg (fun q => h1 q.1)]; omega
        rw [hn] at ha
        obtain ⟨a1, a2, a3, a4, a5, a6⟩ := ha
        refine g_iret rfl rfl rfl ⟨?_, h8, a3, a4, hf⟩
        rw [a1, a2, a5, a6]
        rfl
      · rw [nIle (by omega) (by omega)] at h22
        omega
    | succ q ih =>
      intro j M1 x5 x6 hj ha h8 hf
      have L1 := oRL_kp (hf.kp (oWg_kp w)) hL
      have D1 := L1.2.2.2.2.2.1 d hd
      have ec : M1 5 (4 * w + d) 4 = nI (cC N d) := (D1.1 4 (by decide)).trans hC
      have hfr : sFrom s c j < cC N d := by
        unfold sFrom
        split
        · have := hc3 (by assumption)
          split
          · omega
          · split <;> omega
        · omega
      -- from place 113 on: a call is gone by
      have go : ∀ tu : Nat, tu = (if s = 2 ∧ j = c then 4 else 0) → ¬ (s = 1 ∧ j = c) → oG k_Walk_gapWithSlip 3 113 [some (.inr (K_WALK, w)), some (.inr (K_DEED, 4 * w + d)), some (.inl (nI s)), some (.inl (nI c)), some (.inl (nI j)), some (.inl (nI (sFrom s c j))), some (.inl (nI tu))] [] M1 (Q_gapS M N w d (nI nd) ch s c) := by
        intro tu htu hno
        obtain ⟨kd, wy, ln, b1, b2, b3, e1, e2, e3⟩ := oCall_ok hDo hfr
        obtain ⟨g1, g2, g3⟩ := D1.2 (sFrom s c j) hfr
        refine oRun_ok 4 rfl ?_
        refine g_iald (sFrom s c j) rfl rfl rfl (by omega) ?_
        refine oRun_ok 3 rfl ?_
        refine g_iald (sFrom s c j) rfl rfl rfl (by omega) ?_
        refine oRun_ok 5 rfl ?_
        refine g_iald (sFrom s c j) rfl rfl rfl (by omega) ?_
        rw [show M1 6 (4 * w + d) (sFrom s c j) = nI kd from g1.trans e1, show M1 7 (4 * w + d) (sFrom s c j) = nI wy from g2.trans e2, show M1 8 (4 * w + d) (sFrom s c j) = nI ln from g3.trans e3, nI_add]
        have htu4 : tu ≤ 4 := by rw [htu]; split <;> omega
        refine g_callV rfl rfl rfl rfl rfl mok_Walk_goOn (by decide) (c_go M1 N w kd (wy + tu) ln nd _ _ _ _ hN L1 b1 (by omega) b3 hnd ha) ?_
        rintro r138 M138 ⟨rfl, a138, f138, k138⟩
        refine oRun_ok 2 rfl ?_
        rw [nI_1]
        refine ih (j + 1) M138 _ _ (by omega) ?_ (fun i hi => (k138 i hi).trans (h8 i hi)) (hf.tr f138)
        generalize hm : (if s = 1 ∧ c < j then j - 1 else j) = m at a138
        have hm1 : (if s = 1 ∧ c < j + 1 then j + 1 - 1 else j + 1) = m + 1 := by
          rw [← hm]
          split <;> split <;> omega
        rw [hm1]
        have kS : ∀ f : Nat → Int32, sSl s c f m = f (sFrom s c j) := by
          intro f
          unfold sSl sFrom
          by_cases h1 : s = 1
          · rw [if_pos h1, if_neg (show ¬ s = 3 by omega)]
            by_cases h2 : c < j
            · rw [if_pos ⟨h1, h2⟩] at hm
              rw [if_neg (by omega), show m + 1 = j by omega]
            · rw [if_neg (fun q => h2 q.2)] at hm
              have : ¬ j = c := fun q => hno ⟨h1, q⟩
              rw [if_pos (by omega), hm]
          · rw [if_neg h1]
            rw [if_neg (fun q => h1 q.1)] at hm
            subst hm
            by_cases h3 : s = 3
            · rw [if_pos h3, if_pos h3]
              by_cases h4 : j = c
              · rw [if_pos h4, if_pos h4]
              · rw [if_neg h4, if_neg h4]
                by_cases h5 : j = c + 1
                · rw [if_pos h5, if_pos h5]
                · rw [if_neg h5, if_neg h5]
            · rw [if_neg h3, if_neg h3]
        have wS : sSw s c (wA N d) m = oRem (nI (wy + tu)) 8 := by
          unfold sSw
          by_cases h2 : s = 2
          · rw [if_pos h2]
            rw [if_neg (show ¬ (s = 1 ∧ c < j) by omega)] at hm
            subst hm
            have hfj : sFrom s c j = j := by unfold sFrom; rw [if_neg (by omega)]
            rw [hfj] at e2
            by_cases h4 : j = c
            · rw [if_pos h4, e2, htu, if_pos ⟨h2, h4⟩, show (4 : Int32) = nI 4 from rfl, nI_add]
            · rw [if_neg h4, e2, htu, if_neg (fun q => h4 q.2), Nat.add_zero, rem8_id b2]
          · rw [if_neg h2, kS, e2, htu, if_neg (fun q => h2 q.1), Nat.add_zero, rem8_id b2]
        show oAt M138 w _ _ _ _ (sStep N _ _ _ _ (sSl s c (kA N d) m) (sSw s c (wA N d) m) (sSl s c (lA N d) m) _ _)
        rw [kS, kS, wS, e1, e3]
        exact a138
      -- from place 95 on
      have at95 : ¬ (s = 1 ∧ j = c) → ∀ x6, oG k_Walk_gapWithSlip 3 95 [some (.inr (K_WALK, w)), some (.inr (K_DEED, 4 * w + d)), some (.inl (nI s)), some (.inl (nI c)), some (.inl (nI j)), some (.inl (nI (sFrom s c j))), x6] [] M1 (Q_gapS M N w d (nI nd) ch s c) := by
        intro hno x6
        refine oRun_ok 2 rfl ?_
        refine g_ic_ne rfl (fun h97 => ?_) (fun h97 => ?_)
        · refine oRun_ok 2 rfl ?_
          exact go 0 (by rw [if_neg (fun q => h97 (by rw [q.1]; rfl))]) hno
        · have hs2 : s = 2 := (kn s 2 (by omega) (by omega)).mp h97
          refine oRun_ok 2 rfl ?_
          refine g_ic_ne rfl (fun h103 => ?_) (fun h103 => ?_)
          · refine oRun_ok 2 rfl ?_
            exact go 0 (by rw [if_neg (fun q => h103 (by rw [q.2]))]) hno
          · have hjc : j = c := (kn j c (by omega) (by omega)).mp h103
            refine oRun_ok 3 rfl ?_
            exact go 4 (by rw [if_pos ⟨hs2, hjc⟩]) hno
      -- from place 84 on
      have at84 : ∀ x6, oG k_Walk_gapWithSlip 3 84 [some (.inr (K_WALK, w)), some (.inr (K_DEED, 4 * w + d)), some (.inl (nI s)), some (.inl (nI c)), some (.inl (nI j)), some (.inl (nI (sFrom s c j))), x6] [] M1 (Q_gapS M N w d (nI nd) ch s c) := by
        intro x6
        refine oRun_ok 2 rfl ?_
        refine g_ic_ne rfl (fun h86 => at95 (fun q => h86 (by rw [q.1]; rfl)) x6) (fun h86 => ?_)
        have hs1 : s = 1 := (kn s 1 (by omega) (by omega)).mp h86
        refine oRun_ok 2 rfl ?_
        refine g_ic_eq rfl (fun h92 => ?_) (fun h92 => at95 (fun q => h92 (by rw [q.2])) x6)
        have hjc : j = c := (kn j c (by omega) (by omega)).mp h92
        refine oRun_ok 2 rfl ?_
        rw [nI_1]
        refine ih (j + 1) M1 _ _ (by omega) ?_ h8 hf
        rw [if_neg (by omega)] at ha
        rw [if_pos ⟨hs1, by omega⟩]
        exact ha
      refine oRun_ok 3 rfl ?_
      rw [ec]
      refine g_ic_ge rfl (fun h22 => ?_) (fun h22 => ?_)
      · rw [nIle (by omega) (by omega)] at h22
        omega
      -- from place 60 on
      have at60 : ¬ (s = 3 ∧ j = c) → oG k_Walk_gapWithSlip 3 60 [some (.inr (K_WALK, w)), some (.inr (K_DEED, 4 * w + d)), some (.inl (nI s)), some (.inl (nI c)), some (.inl (nI j)), some (.inl (nI j)), x6] [] M1 (Q_gapS M N w d (nI nd) ch s c) := by
        intro hno
        refine oRun_ok 2 rfl ?_
        refine g_ic_ne rfl (fun h62 => ?_) (fun h62 => ?_)
        · have : sFrom s c j = j := by
            unfold sFrom
            rw [if_neg (fun q => h62 (by rw [q]; rfl))]
          have h := at84 x6
          rw [this] at h
          exact h
        · have hs3 : s = 3 := (kn s 3 (by omega) (by omega)).mp h62
          refine oRun_ok 1 rfl ?_
          refine g_if_le rfl (fun h67 => ?_) (fun h67 => ?_)
          · have hj0 : j = 0 := by
              rw [show (0 : Int32) = nI 0 from rfl, nIle (by omega) (by omega)] at h67
              omega
            have : sFrom s c j = j := by
              unfold sFrom
              rw [if_pos hs3, if_neg (fun q => hno ⟨hs3, q⟩), if_neg (by omega)]
            have h := at84 x6
            rw [this] at h
            exact h
          · have hj0 : ¬ j = 0 := fun q => h67 (by rw [q]; decide)
            refine oRun_ok 4 rfl ?_
            rw [nI_1]
            refine g_ic_ne rfl (fun h75 => ?_) (fun h75 => ?_)
            · have : sFrom s c j = j := by
                unfold sFrom
                rw [if_pos hs3, if_neg (fun q => hno ⟨hs3, q⟩), if_neg (fun q => h75 (by rw [q]))]
              have h := at84 x6
              rw [this] at h
              exact h
            · have hjc : j = c + 1 := (kn j (c + 1) (by omega) (by omega)).mp h75
              have : sFrom s c j = j - 1 := by
                unfold sFrom
                rw [if_pos hs3, if_neg (by omega), if_pos hjc]
                omega
              refine oRun_ok 4 rfl ?_
              rw [show nI j - 1 = nI (j - 1) from nIsub (b := 1) (by omega)]
              have h := at84 x6
              rw [this] at h
              exact h
      refine oRun_ok 4 rfl ?_
      refine g_ic_ne rfl (fun h31 => at60 (fun q => h31 (by rw [q.1]; rfl))) (fun h31 => ?_)
      have hs3 : s = 3 := (kn s 3 (by omega) (by omega)).mp h31
      refine oRun_ok 2 rfl ?_
      refine g_ic_ne rfl (fun h37 => at60 (fun q => h37 (by rw [q.2]))) (fun h37 => ?_)
      have hjc : j = c := (kn j c (by omega) (by omega)).mp h37
      refine oRun_ok 5 rfl ?_
      rw [ec, nI_1]
      refine g_ic_ge rfl (fun h48 => ?_) (fun h48 => ?_)
      · rw [nIle (by omega) (by omega)] at h48
        have := hc3 hs3
        omega
      · have : sFrom s c j = j + 1 := by
          unfold sFrom
          rw [if_pos hs3, if_pos hjc]
          omega
        refine oRun_ok 5 rfl ?_
        rw [nI_1]
        have h := at84 x6
        rw [this] at h
        exact h
  refine oRun_ok 2 rfl ?_
  refine loop (cC N d) 0 M10 _ _ (by omega) ?_ (fun j hj => by rw [e10', oSO_8 hj]) f10
  rw [if_neg (by omega)]
  exact oAt_out e10
