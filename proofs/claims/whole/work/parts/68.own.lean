/-! ===== whose, owned, would ===== -/
def s_whose (D : oM) (c : Int32) : Int32 × oM := if f_Oak_isCell c = 0 then (vBAD, D) else (oLr (sOwn (D K_M_now 0) (c / 100).toInt (oRem c 100).toInt), D)
theorem sOwn_lt {N : Nat → Int32} {x y : Int} {d : Nat} (h : sOwn N x y = some d) : d < cD N := sFst_b h
theorem p_whose (M D : oM) (c : Int32) (hI : oI M D) : oCt 7 k_Oak_whose [.inr (K_OAK, 0), .inl c] M (oQC (s_whose D c) M) := by
  obtain ⟨hDD, d4⟩ := oND hI.ok
  refine oCt.of (ls := [some (.inr (K_OAK, 0)), some (.inl c), none]) mok_Oak_whose rfl rfl ?_
  refine oRun_ok 1 rfl ?_
  refine g_callS rfl rfl rfl rfl mok_Oak_isCell (by decide) (c_Oak_isCell _ _) ?_
  rintro r1 M1 ⟨rfl, e⟩; rw [e]
  refine g_if_ne rfl (fun h4 => ?_) (fun h4 => ?_)
  · obtain ⟨x, y, hx, hy, ex, ey⟩ := cell_in h4
    have fin : s_whose D c = (oLr (sOwn (D K_M_now 0) x y), D) := (if_neg h4).trans (by rw [ex, ey, nIt (by omega), nIt (by omega)])
    refine oRun_ok 4 rfl ?_
    refine g_callV rfl rfl rfl rfl rfl mok_Cells_fillOwners (by decide) (c_Cells_fillOwners _ _ 0 0 hI.ok hI.rl) ?_
    rintro r M' ⟨rfl, f1, f2, f3⟩
    refine oRun_ok 2 rfl ?_
    have eL : M' 1 0 4 = nI (cD (D K_M_now 0)) := by
      have hI' := hI.cls f3.os.sc
      exact hI'.dd.trans hDD
    have loop : ∀ (q k : Nat), k + q = cD (D K_M_now 0) → (∀ d, d < k → ¬ sOwn (D K_M_now 0) x y = some d) → oG k_Oak_whose 7 23 [some (.inr (K_OAK, 0)), some (.inl c), some (.inl (nI k))] [] M' (oQC (s_whose D c) M) := by
      intro q
      induction q with
      | zero =>
        intro k hk ha
        obtain rfl : k = cD (D K_M_now 0) := by omega
        refine oRun_ok 4 rfl ?_
        rw [eL]
        refine g_ic_ge rfl (fun _ => ?_) (fun h => absurd (Int32.le_refl _) h)
        refine oRun_ok 1 rfl ?_
        refine g_iret rfl rfl rfl (oQC.look hI ?_ f3.os)
        cases hz : sOwn (D K_M_now 0) x y with
        | none =>
          rw [fin, hz]
          rfl
        | some d => exact absurd hz (ha d (sOwn_lt hz))
      | succ q ih =>
        intro k hk ha
        refine oRun_ok 4 rfl ?_
        rw [eL]
        refine g_ic_ge rfl (fun h => ?_) (fun _ => ?_)
        · rw [nIle (by omega) (by omega)] at h
          omega
        refine oRun_ok 9 rfl ?_
        rw [ex, ey]
        refine g_callV rfl rfl rfl rfl rfl mok_Cells_isHeld (by decide) (c_Cells_isHeld _ 0 k x y (by omega) hx hy) ?_
        rintro r N1 ⟨rfl, e⟩; rw [e]
        have hb := f1 k (by omega) y hy x
        refine g_if_eq rfl (fun h => ?_) (fun h => ?_)
        · refine oRun_ok 2 rfl ?_
          rw [nI_1]
          refine ih (k + 1) (by omega) (fun d hd => ?_)
          by_cases z : d = k
          · rw [z]
            intro q
            have := hb.mpr ⟨hx, q⟩
            rw [bI_eq0.mp h] at this
            cases this
          · exact ha d (by omega)
        · have := (hb.mp (bI_ne.mp h)).2
          refine oRun_ok 1 rfl ?_
          exact g_iret rfl rfl rfl (oQC.look hI (by rw [fin, this]; rfl) f3.os)
    exact loop (cD (D K_M_now 0)) 0 (by omega) (fun d hd => absurd hd (by omega))
  · refine oRun_ok 1 rfl ?_
    exact g_iret rfl rfl rfl (oQC.same hI (if_pos h4))
theorem q_whose (C M D : oM) (c : Int32) (hI : oI C D) (hD : oPs D M) : oCt 6 k_Mod_whose [.inr (K_MOD, 0), .inl c] M (oQM (s_whose D c) M) := by
  have hN := hD.now
  obtain ⟨hDD, d4⟩ := oND hI.ok
  refine oCt.of (ls := [some (.inr (K_MOD, 0)), some (.inl c), none, none, none]) mok_Mod_whose rfl rfl ?_
  refine oRun_ok 1 rfl ?_
  refine g_callS rfl rfl rfl rfl mok_Mod_isCell (by decide) (c_Mod_isCell _ _) ?_
  rintro r1 M1 ⟨rfl, e⟩; rw [e]
  refine g_if_ne rfl (fun h4 => ?_) (fun h4 => ?_)
  · have h4 : ¬ f_Oak_isCell c = 0 := h4
    obtain ⟨x, y, hx, hy, ex, ey⟩ := cell_in h4
    have rx : inR (c / 100) 0 29 := by rw [ex]; exact inR_n (m := 29) (by omega) (by decide)
    have ry : inR (oRem c 100) 0 29 := by rw [ey]; exact inR_n (m := 29) (by omega) (by decide)
    refine oRun_ok 4 rfl ?_
    have fin : s_whose D c = (oLr (sOwn (D K_M_now 0) (c / 100).toInt (oRem c 100).toInt), D) := if_neg h4
    unfold sOwn at fin
    generalize hok : (fun d => sHeld (D K_M_now 0) d (c / 100).toInt (oRem c 100).toInt) = ok at fin
    generalize hrk : sRk (D K_M_now 0) = rk at fin
    have loop : ∀ (q d : Nat) (M1 : oM) (x4 : Option oV), d + q = cD (D K_M_now 0) → (∀ e, e < d → M1 K_M_ranks 0 e = rk e) → oFr oFh M M1 → oM7 M M1 → oG k_Mod_whose 6 14 [some (.inr (K_MOD, 0)), some (.inl c), some (.inl (oFst (sFst ok rk d))), some (.inl (nI d)), x4] [] M1 (oQM (s_whose D c) M) := by
      intro q
      induction q with
      | zero =>
        intro d M1 x4 hd h2 hF hm
        obtain rfl : d = cD (D K_M_now 0) := by omega
        refine oRun_ok 4 rfl ?_
        refine g_iald 2 rfl rfl rfl (by decide) ?_
        rw [show M1 32 0 = _ from (hF 32 0 (oFh_no (by decide))).trans hN, hDD]
        refine g_ic_ge rfl (fun _ => ?_) (fun h => absurd (Int32.le_refl _) h)
        cases hz : sFst ok rk (cD (D K_M_now 0)) with
        | none =>
          rw [hz] at fin
          refine oRun_ok 1 rfl ?_
          refine g_if_ge rfl (fun h => absurd h (by decide)) (fun _ => ?_)
          refine oRun_ok 2 rfl ?_
          exact g_iret rfl rfl rfl (oQM.look hD fin (oMs_fh hF hm))
        | some b =>
          rw [hz] at fin
          have hb := sFst_b hz
          refine oRun_ok 1 rfl ?_
          refine g_if_ge rfl (fun _ => ?_) (fun h => absurd (Int32.not_lt.mp (nI_pos (by omega))) h)
          refine oRun_ok 1 rfl ?_
          exact g_iret rfl rfl rfl (oQM.look hD fin (oMs_fh hF hm))
      | succ q ih =>
        intro d M1 x4 hd h2 hF hm
        have en : M1 K_M_now 0 = D K_M_now 0 := (hF 32 0 (oFh_no (by decide))).trans hN
        have hd' : d < cD (D K_M_now 0) := by omega
        obtain ⟨hC, c10⟩ := oNC (hI.dok hd')
        refine oRun_ok 4 rfl ?_
        refine g_iald 2 rfl rfl rfl (by decide) ?_
        rw [show M1 32 0 = _ from en, hDD]
        refine g_ic_ge rfl (fun h => ?_) (fun _ => ?_)
        · rw [nIle (by omega) (by omega)] at h
          omega
        refine oRun_ok 2 rfl ?_
        refine g_callV rfl rfl rfl rfl rfl mok_Mod_findCorners (by decide) (c_Mod_findCorners _ _ d en hI.ok hd') ?_
        rintro r1 M2 ⟨rfl, f1, f2, f3, f4, f5⟩
        have en2 : M2 K_M_now 0 = D K_M_now 0 := (f5 32 0 oMf_now).trans en
        refine oRun_ok 6 rfl ?_
        refine g_callV rfl rfl rfl rfl rfl mok_Mod_rankOf (by decide) (c_Mod_rankOf _ _ d en2 hI.ok hd') ?_
        rintro r2 M3 ⟨rfl, g1⟩
        have g1k : ∀ k, ¬ k = K_M_stack → ¬ k = K_M_facts → M3 k 0 = M2 k 0 := fun k q1 q2 => g1 k 0 (fun z => z.elim q1 q2)
        have hF3 : oFr oFh M M3 := (hF.tr (f5.mono (fun k i q => Or.inl q))).tr (g1.mono (fun k i q => Or.inl (Or.inr (Or.inr q))))
        refine g_iast d rfl rfl rfl (by omega) ?_
        rw [hrk]
        have hF4 : oFr oFh M (oUp M3 41 0 d (rk d)) := hF3.up (Or.inr (Or.inr rfl))
        have hm4 : oM7 M (oUp M3 41 0 d (rk d)) := (hm.tr f2).tr (oM7.k (by rw [oUp_k (by decide), g1k _ (by decide) (by decide)]))
        have hk4 : ∀ e, e < d + 1 → oUp M3 41 0 d (rk d) K_M_ranks 0 e = rk e := by
          intro e he
          by_cases z : e = d
          · rw [z]
            exact oUp_self
          · refine (oUp_j z).trans ?_
            rw [show M3 41 0 = M2 41 0 from g1k _ (by decide) (by decide), f5 41 0 (oMf_no (Or.inr (Or.inl rfl)))]
            exact h2 e (by omega)
        have h7 : oUp M3 41 0 d (rk d) K_MOD 0 7 = nI (cC (D K_M_now 0) d) := by
          rw [oUp_k (by decide), g1k _ (by decide) (by decide)]
          exact f1
        have h3 : ∀ j, j ≤ cC (D K_M_now 0) d → oUp M3 41 0 d (rk d) K_M_cornerX 0 j = (sC (D K_M_now 0) d (sNd (D K_M_now 0) d) (sCh (D K_M_now 0) d) j).1 ∧ oUp M3 41 0 d (rk d) K_M_cornerY 0 j = (sC (D K_M_now 0) d (sNd (D K_M_now 0) d) (sCh (D K_M_now 0) d) j).2 := by
          intro j hj
          rw [oUp_k (k' := K_M_cornerX) (by decide), oUp_k (k' := K_M_cornerY) (by decide), g1k K_M_cornerX (by decide) (by decide), g1k K_M_cornerY (by decide) (by decide)]
          exact f3 j hj
        generalize oUp M3 41 0 d (rk d) = M4 at hF4 hm4 hk4 h7 h3 ⊢
        refine oRun_ok 7 rfl ?_
        refine g_callV rfl rfl rfl rfl rfl mok_Mod_isHeld (by decide) (c_Mod_isHeld _ _ _ _ h7 c10 rx ry (far_find hI.ok hd' h3)) ?_
        rintro r3 N1 ⟨rfl, e⟩; rw [e, held_find h3, show sHeld (D K_M_now 0) d (c / 100).toInt (oRem c 100).toInt = ok d by rw [← hok]]
        have fin81 : ∀ o, oFst (sFst ok rk (d + 1)) = o → oG k_Mod_whose 6 81 [some (.inr (K_MOD, 0)), some (.inl c), some (.inl (oFst (sFst ok rk d))), some (.inl (nI d)), some (.inl (sGap (D K_M_now 0) d (sNd (D K_M_now 0) d) (sCh (D K_M_now 0) d)))] [.inl o] M4 (oQM (s_whose D c) M) := by
          rintro o rfl
          refine oRun_ok 3 rfl ?_
          rw [nI_1]
          exact ih (d + 1) M4 _ (by omega) hk4 hF4 hm4
        have keep : sFst ok rk (d + 1) = sFst ok rk d → oG k_Mod_whose 6 80 [some (.inr (K_MOD, 0)), some (.inl c), some (.inl (oFst (sFst ok rk d))), some (.inl (nI d)), some (.inl (sGap (D K_M_now 0) d (sNd (D K_M_now 0) d) (sCh (D K_M_now 0) d)))] [] M4 (oQM (s_whose D c) M) := by
          intro h
          refine oRun_ok 1 rfl ?_
          exact fin81 _ (by rw [h])
        have take : sFst ok rk (d + 1) = some d → oG k_Mod_whose 6 76 [some (.inr (K_MOD, 0)), some (.inl c), some (.inl (oFst (sFst ok rk d))), some (.inl (nI d)), some (.inl (sGap (D K_M_now 0) d (sNd (D K_M_now 0) d) (sCh (D K_M_now 0) d)))] [] M4 (oQM (s_whose D c) M) := by
          intro h
          refine oRun_ok 2 rfl ?_
          exact fin81 _ (by rw [h]; rfl)
        refine g_if_eq rfl (fun h54 => ?_) (fun h54 => ?_)
        · refine keep ?_
          rw [sFst, if_neg (by rw [bI_eq0.mp h54]; decide)]
        · have hok' : ok d = true := bI_ne.mp h54
          refine oRun_ok 1 rfl ?_
          refine g_if_lt rfl (fun h58 => ?_) (fun h58 => ?_)
          · refine take ?_
            rw [sFst, if_pos hok']
            cases hz : sFst ok rk d with
            | none => rfl
            | some b =>
              have hb := sFst_b hz
              exfalso
              rw [hz] at h58
              exact nI_pos (by omega) h58
          · cases hz : sFst ok rk d with
            | none =>
              exfalso
              rw [hz] at h58
              exact h58 (by decide)
            | some b =>
              have hb := sFst_b hz
              rw [hz] at take keep
              rw [show oFst (some b) = nI b from rfl] at take keep ⊢
              refine oRun_ok 3 rfl ?_
              refine g_iald d rfl rfl rfl (by omega) ?_
              refine oRun_ok 3 rfl ?_
              refine g_iald b rfl rfl rfl (by omega) ?_
              rw [show M4 41 0 d = rk d from hk4 d (by omega), show M4 41 0 b = rk b from hk4 b (by omega)]
              refine g_ic_ge rfl (fun h73 => ?_) (fun h73 => ?_)
              · refine keep ?_
                rw [sFst, if_pos hok', hz]
                show (if rk d < rk b then some d else some b) = some b
                rw [if_neg (fun z => Int32.not_lt.mpr h73 z)]
              · refine take ?_
                rw [sFst, if_pos hok', hz]
                show (if rk d < rk b then some d else some b) = some d
                rw [if_pos (Int32.not_le.mp h73)]
    exact loop (cD (D K_M_now 0)) 0 M _ (by omega) (fun e he => absurd he (by omega)) oFr.rf oM7.rf
  · refine oRun_ok 1 rfl ?_
    exact g_iret rfl rfl rfl (oQM.same hD (if_pos h4))
-- owned
def s_owned (D : oM) (d : Int32) : Int32 × oM := if d = -1 then (nI (sCells (fun x y => decide (sOwn (D K_M_now 0) x y = none))), D) else if f_Oak_isWithin d 0 (D K_M_now 0 2 - 1) = 0 then (vBAD, D) else (nI (sCells (fun x y => decide (sOwn (D K_M_now 0) x y = some d.toNatClampNeg))), D)
theorem p_owned (M D : oM) (d : Int32) (hI : oI M D) : oCt 7 k_Oak_owned [.inr (K_OAK, 0), .inl d] M (oQC (s_owned D d) M) := by
  refine oCt.of (ls := [some (.inr (K_OAK, 0)), some (.inl d)]) mok_Oak_owned rfl rfl ?_
  refine oRun_ok 2 rfl ?_
  refine g_ic_eq rfl (fun h2 => ?_) (fun h2 => ?_)
  · refine oRun_ok 4 rfl ?_
    refine g_callV rfl rfl rfl rfl rfl mok_Cells_fillOwners (by decide) (c_Cells_fillOwners _ _ 0 0 hI.ok hI.rl) ?_
    rintro r M' ⟨rfl, f1, f2, f3⟩
    refine oRun_ok 2 rfl ?_
    refine g_ic_ne rfl (fun h32 => ?_) (fun h32 => ?_)
    · exact absurd h2 h32
    · refine oRun_ok 4 rfl ?_
      refine g_callS rfl rfl rfl rfl mok_Oak_countBits (by decide) (c_bits_NOB _ 0) ?_
      rintro r54 M54 ⟨rfl, e⟩; rw [e]
      refine g_iret rfl rfl rfl (oQC.look hI ((if_pos h2).trans ?_) f3.os)
      rw [rows_cells (p := fun x y => decide (sOwn (D K_M_now 0) x y = none)) (fun y hy x => ?_)]
      rw [decide_eq_true_eq]
      exact f2 y hy x
  · refine oRun_ok 3 rfl ?_
    refine g_callV rfl rfl rfl rfl rfl mok_Land_hasDeed (by decide) (c_Land_hasDeed _ 0 _) ?_
    rintro r10 M10 ⟨rfl, e⟩; rw [e]
    rw [hI.dd]
    refine g_if_ne rfl (fun h13 => ?_) (fun h13 => ?_)
    · obtain ⟨j, hj, hj4, rfl, ej⟩ := oHasD hI h13
      refine oRun_ok 4 rfl ?_
      refine g_callV rfl rfl rfl rfl rfl mok_Cells_fillOwners (by decide) (c_Cells_fillOwners _ _ 0 0 hI.ok hI.rl) ?_
      rintro r M' ⟨rfl, f1, f2, f3⟩
      refine oRun_ok 2 rfl ?_
      refine g_ic_ne rfl (fun h32 => ?_) (fun h32 => ?_)
      · refine oRun_ok 4 rfl ?_
        refine g_aald j rfl rfl rfl hj4 rfl ?_
        refine g_callS rfl rfl rfl rfl mok_Oak_countBits (by decide) (c_bits_HROW _ (4 * 0 + j)) ?_
        rintro r54 M54 ⟨rfl, e⟩; rw [e]
        refine g_iret rfl rfl rfl (oQC.look hI ((if_neg h2).trans ((if_neg h13).trans ?_)) f3.os)
        rw [ej, rows_cells (p := fun x y => decide (sOwn (D K_M_now 0) x y = some j)) (fun y hy x => ?_)]
        rw [decide_eq_true_eq]
        exact f1 j hj y hy x
      · exact absurd h32 h2
    · refine oRun_ok 1 rfl ?_
      exact g_iret rfl rfl rfl (oQC.same hI ((if_neg h2).trans (if_pos h13)))
theorem oFst_eq {o : Option Nat} {b : Nat} (ho : ∀ d, o = some d → d < 4) (hb : b < 4) : oFst o = nI b ↔ o = some b := by
  cases o with
  | none =>
    constructor
    · intro h
      exact absurd h.symm (fun z => by
        have : (nI b).toInt = (-1 : Int32).toInt := by rw [z]; rfl
        rw [nIt (by omega), show (-1 : Int32).toInt = -1 from rfl] at this
        omega)
    · intro h
      cases h
  | some d =>
    have := ho d rfl
    show nI d = nI b ↔ _
    rw [nIe (by omega) (by omega), Option.some_inj]
theorem oFst_none {o : Option Nat} (ho : ∀ d, o = some d → d < 4) : oFst o = -1 ↔ o = none := by
  cases o with
  | none => exact ⟨fun _ => rfl, fun _ => rfl⟩
  | some d =>
    have := ho d rfl
    constructor
    · intro h
      exfalso
      have h : nI d = -1 := h
      have : (nI d).toInt = (-1 : Int32).toInt := by rw [h]
      rw [nIt (by omega), show (-1 : Int32).toInt = -1 from rfl] at this
      omega
    · intro h
      cases h
theorem oFst_inj {o p : Option Nat} (ho : ∀ d, o = some d → d < 4) (hp : ∀ d, p = some d → d < 4) : oFst o = oFst p ↔ o = p := by
  cases p with
  | none => exact oFst_none ho
  | some b => exact oFst_eq ho (hp b rfl)
/-- the count of cells, as the model counts -/
theorem q_owned (C M D : oM) (d : Int32) (hI : oI C D) (hD : oPs D M) : oCt 7 k_Mod_owned [.inr (K_MOD, 0), .inl d] M (oQM (s_owned D d) M) := by
  have hN := hD.now
  obtain ⟨hDD, d4⟩ := oND hI.ok
  have tail : ∀ p : Nat → Bool, (∀ c, c < 900 → (oFst (sOwn (D K_M_now 0) (c / 30 : Nat) (c % 30 : Nat)) = d ↔ p c = true)) → s_owned D d = (nI (sCnt p 900), D) → oG k_Mod_owned 7 16 [some (.inr (K_MOD, 0)), some (.inl d), none, none] [] M (oQM (s_owned D d) M) := by
    intro p hp fin
    refine oRun_ok 1 rfl ?_
    refine g_callV rfl rfl rfl rfl rfl mok_Mod_findHeld (by decide) (c_Mod_findHeld _ _ hN hI.ok) ?_
    rintro r M1 ⟨rfl, f1, f2, f3, f4⟩
    refine oRun_ok 4 rfl ?_
    have en : M1 K_M_now 0 2 = nI (cD (D K_M_now 0)) := by
      rw [(f3 32 0 (oFh_no (by decide))).trans hN]
      exact hDD
    have loop : ∀ (q k : Nat), k + q = 900 → oG k_Mod_owned 7 24 [some (.inr (K_MOD, 0)), some (.inl d), some (.inl (nI (sCnt p k))), some (.inl (nI k))] [] M1 (oQM (s_owned D d) M) := by
      intro q
      induction q with
      | zero =>
        intro k hk
        obtain rfl : k = 900 := by omega
        refine oRun_ok 2 rfl ?_
        refine g_ic_ge rfl (fun _ => ?_) (fun h => absurd (Int32.le_refl _) h)
        refine oRun_ok 1 rfl ?_
        exact g_iret rfl rfl rfl (oQM.look hD fin (oMs_fh f3 f4))
      | succ q ih =>
        intro k hk
        refine oRun_ok 2 rfl ?_
        refine g_ic_ge rfl (fun h => ?_) (fun _ => ?_)
        · have h : nI 900 ≤ nI k := h
          rw [nIle (by omega) (by omega)] at h
          omega
        refine oRun_ok 3 rfl ?_
        refine g_callV rfl rfl rfl rfl rfl mok_Mod_ownerOf (by decide) (c_Mod_ownerOf _ k _ en d4 (by omega)) ?_
        rintro r N1 ⟨rfl, e⟩; rw [e, own_fh (by omega) f1 f2]
        refine oRun_ok 1 rfl ?_
        have le := sCnt_le p k
        have ih' := ih (k + 1) (by omega)
        rw [sCnt] at ih'
        refine g_ic_ne rfl (fun h => ?_) (fun h => ?_)
        · have hb : p k = false := by
            cases hz : p k with
            | false => rfl
            | true => exact absurd ((hp k (by omega)).mpr hz) h
          rw [hb] at ih'
          refine oRun_ok 5 rfl ?_
          rw [nI_1, Int32.add_zero]
          exact ih'
        · rw [(hp k (by omega)).mp h, if_pos rfl] at ih'
          refine oRun_ok 6 rfl ?_
          rw [nI_1, nI_1]
          exact ih'
    exact loop 900 0 (by omega)
  have ol : ∀ x y d', sOwn (D K_M_now 0) x y = some d' → d' < 4 := fun x y d' h => by have := sOwn_lt h; omega
  refine oCt.of (ls := [some (.inr (K_MOD, 0)), some (.inl d), none, none]) mok_Mod_owned rfl rfl ?_
  refine oRun_ok 2 rfl ?_
  refine g_ic_eq rfl (fun h2 => ?_) (fun h2 => ?_)
  · refine tail (fun c => decide (sOwn (D K_M_now 0) (c / 30 : Nat) (c % 30 : Nat) = none)) (fun c hc => ?_) (if_pos h2)
    rw [h2, decide_eq_true_eq]
    exact oFst_none (ol _ _)
  · refine oRun_ok 2 rfl ?_
    refine g_callV rfl rfl rfl rfl rfl mok_Mod_isDeed (by decide) (c_Mod_isDeed _ _) ?_
    rintro r7 M7 ⟨rfl, e⟩; rw [e]
    rw [hN]
    refine g_if_ne rfl (fun h10 => ?_) (fun h10 => ?_)
    · obtain ⟨j, hj, hj4, rfl, ej⟩ := oHasD hI h10
      refine tail (fun c => decide (sOwn (D K_M_now 0) (c / 30 : Nat) (c % 30 : Nat) = some j)) (fun c hc => ?_) ((if_neg h2).trans ((if_neg h10).trans (by rw [ej]; rfl)))
      rw [decide_eq_true_eq]
      exact oFst_eq (ol _ _) hj4
    · refine oRun_ok 1 rfl ?_
      exact g_iret rfl rfl rfl (oQM.same hD ((if_neg h2).trans (if_pos h10)))
-- would
def s_would (D : oM) (s x y : Int32) : Int32 × oM := if f_Oak_isWithin s 0 (D K_M_now 0 1 - 1) = 0 then (vBAD, D) else if f_Oak_isStonePlace x y = 0 then (vBAD, D) else (nI (sCells (fun a b => decide (¬ sOwn (D K_M_now 0) a b = sOwn (n_move (D K_M_now 0) s.toNatClampNeg x y) a b))), D)
theorem oUp_back {M : oM} {k i j : Nat} {v : Int32} (h : M k i j = v) : oUp M k i j v = M := by
  funext k' i' j'
  by_cases z : k' = k ∧ i' = i
  · obtain ⟨rfl, rfl⟩ := z
    rw [oUp_at]
    by_cases y : j' = j
    · rw [y]
      exact (if_pos rfl).trans h.symm
    · exact if_neg y
  · rw [oUp_ne z]
theorem p_would (M D : oM) (s x y : Int32) (hI : oI M D) : oCt 7 k_Oak_would [.inr (K_OAK, 0), .inl s, .inl x, .inl y] M (oQC (s_would D s x y) M) := by
  obtain ⟨hS, s8⟩ := oNS hI.ok
  obtain ⟨hDD, d4⟩ := oND hI.ok
  refine oCt.of (ls := [some (.inr (K_OAK, 0)), some (.inl s), some (.inl x), some (.inl y), none, none]) mok_Oak_would rfl rfl ?_
  refine oRun_ok 3 rfl ?_
  refine g_callV rfl rfl rfl rfl rfl mok_Land_hasStone (by decide) (c_Land_hasStone _ 0 _) ?_
  rintro r5 M5 ⟨rfl, e⟩; rw [e]
  rw [hI.st]
  refine g_if_eq rfl (fun h8 => ?_) (fun h8 => ?_)
  · refine oRun_ok 1 rfl ?_
    exact g_iret rfl rfl rfl (oQC.same hI (if_pos h8))
  · refine oRun_ok 2 rfl ?_
    refine g_callS rfl rfl rfl rfl mok_Oak_isStonePlace (by decide) (c_Oak_isStonePlace _ _ _) ?_
    rintro r13 M13 ⟨rfl, e⟩; rw [e]
    refine g_if_ne rfl (fun h16 => ?_) (fun h16 => ?_)
    · obtain ⟨i, hi, hi8, rfl, ei⟩ := oHasS hI h8
      obtain ⟨a, b⟩ := hI.sxy hi
      have hx := spot_in h16
      have fin : s_would D (nI i) x y = (nI (sCells (fun a b => decide (¬ sOwn (D K_M_now 0) a b = sOwn (n_move (D K_M_now 0) i x y) a b))), D) := (if_neg h8).trans ((if_neg h16).trans (by rw [ei]))
      refine oRun_ok 4 rfl ?_
      refine g_iald i rfl rfl rfl hi8 ?_
      refine oRun_ok 5 rfl ?_
      refine g_iald i rfl rfl rfl hi8 ?_
      refine oRun_ok 5 rfl ?_
      refine g_callV rfl rfl rfl rfl rfl mok_Cells_fillOwners (by decide) (c_Cells_fillOwners _ _ 0 0 hI.ok hI.rl) ?_
      rintro r1 M1 ⟨rfl, f1, f2, f3⟩
      have hI1 := hI.cls f3.os.sc
      refine oRun_ok 5 rfl ?_
      refine g_callV rfl rfl rfl rfl rfl mok_Land_putStone (by decide) (c_Land_putStone _ 0 i (cS (D K_M_now 0)) x y (hI1.st.trans hS) hi s8) ?_
      rintro r62 M62 ⟨rfl, e⟩; rw [e]
      obtain ⟨k1, k2⟩ := hI1.move hi hx
      refine oRun_ok 4 rfl ?_
      refine g_callV rfl rfl rfl rfl rfl mok_Cells_fillOwners (by decide) (c_Cells_fillOwners _ (n_move (D K_M_now 0) i x y) 1 0 k1 k2) ?_
      rintro r2 M2 ⟨rfl, g1, g2, g3⟩
      have eL : M2 K_LAND 0 = M1 K_LAND 0 := g3 K_LAND 0 (fun q => by
        rcases q with (q | ⟨-, q⟩) | ⟨q, -⟩ | ⟨-, q⟩
        · exact absurd q (by decide)
        · exact absurd q (by decide)
        · exact absurd q (by decide)
        · exact absurd q (by decide))
      refine oRun_ok 5 rfl ?_
      rw [show M 2 0 i = M1 2 0 i by rw [f3.os.sc.1 2 (by decide) 0], show M 3 0 i = M1 3 0 i by rw [f3.os.sc.1 3 (by decide) 0]]
      refine g_callV rfl rfl rfl rfl rfl mok_Land_putStone (by decide) (c_Land_putStone _ 0 i (cS (D K_M_now 0)) _ _ (by rw [eL]; exact hI1.st.trans hS) hi s8) ?_
      rintro r85 M85 ⟨rfl, e⟩; rw [e]
      have sm := g3.os.sc
      have cD1 : cD (n_move (D K_M_now 0) i x y) = cD (D K_M_now 0) := by
        unfold cD
        rw [n_move_s hi8 2 (by omega)]
      rw [cD1] at g1
      refine oRun_ok 7 rfl ?_
      rw [show oUp (oUp M2 K_STX 0 i (M1 2 0 i)) K_STY 0 i (M1 3 0 i) 1 0 4 = nI (cD (D K_M_now 0)) by rw [oUp_k (by decide), oUp_k (by decide), eL]; exact hI1.dd.trans hDD]
      refine g_callV rfl rfl rfl rfl rfl mok_Cells_countUnlike (by decide) (c_Cells_countUnlike _ 0 1 (cD (D K_M_now 0)) (fun a b => sOwn (D K_M_now 0) a b) (fun a b => sOwn (n_move (D K_M_now 0) i x y) a b) d4 (fun d hd y hy x => ?_) (fun y hy x => ?_) (fun d hd y hy x => ?_) (fun y hy x => ?_) (fun x y d h => sOwn_lt h)) ?_
      · rw [oUp_k (by decide), oUp_k (by decide), g3 K_HROW (4 * 0 + d) (fun q => by
          rcases q with (q | ⟨-, q⟩) | ⟨-, q1, q2⟩ | ⟨-, q⟩
          · exact absurd q (by decide)
          · exact absurd q (by decide)
          · omega
          · exact absurd q (by decide))]
        exact f1 d hd y hy x
      · rw [oUp_k (by decide), oUp_k (by decide), g3 K_NOB 0 (fun q => by
          rcases q with (q | ⟨-, q⟩) | ⟨q, -⟩ | ⟨q, -⟩
          · exact absurd q (by decide)
          · exact absurd q (by decide)
          · exact absurd q (by decide)
          · omega)]
        exact f2 y hy x
      · rw [oUp_k (by decide), oUp_k (by decide)]
        exact g1 d hd y hy x
      · rw [oUp_k (by decide), oUp_k (by decide)]
        exact g2 y hy x
      rintro r103 M103 ⟨rfl, e⟩; rw [e]
      refine g_iret rfl rfl rfl ?_
      have smE : oSm M1 (oUp (oUp M2 K_STX 0 i (M1 2 0 i)) K_STY 0 i (M1 3 0 i)) := by
        refine ⟨fun k hk i' => ?_, ?_, ?_, ?_⟩
        · have e2 := sm.1 k hk i'
          by_cases z : k = K_STY
          · subst z
            by_cases w : i' = 0
            · subst w
              funext j'
              rw [oUp_at]
              by_cases v : j' = i
              · rw [v]
                exact if_pos rfl
              · refine (if_neg v).trans ?_
                rw [oUp_k (by decide), e2]
                exact oUp_j v
            · rw [oUp_i w, oUp_k (by decide), e2, oUp_i w]
              rfl
          · rw [oUp_k z] at e2 ⊢
            by_cases z2 : k = K_STX
            · subst z2
              by_cases w : i' = 0
              · subst w
                funext j'
                rw [oUp_at]
                by_cases v : j' = i
                · rw [v]
                  exact if_pos rfl
                · refine (if_neg v).trans ?_
                  rw [e2]
                  exact oUp_j v
              · rw [oUp_i w, e2, oUp_i w]
            · rw [oUp_k z2] at e2 ⊢
              exact e2
        · exact sm.2.1
        · exact sm.2.2.1
        · exact sm.2.2.2
      refine oQC.of fin (hI1.cls smE) (((f3.os.scl.tr (((oFr.rf.cl (by decide)).cl (by decide)).tr g3.os.scl)).cl (by decide)).cl (by decide))
    · refine oRun_ok 1 rfl ?_
      exact g_iret rfl rfl rfl (oQC.same hI ((if_neg h8).trans (if_pos h16)))
theorem q_would (C M D : oM) (s x y : Int32) (hI : oI C D) (hD : oPs D M) : oCt 7 k_Mod_would [.inr (K_MOD, 0), .inl s, .inl x, .inl y] M (oQM (s_would D s x y) M) := by
  have hN := hD.now
  obtain ⟨hDD, d4⟩ := oND hI.ok
  have ol : ∀ (N : Nat → Int32) x y d', cD N = cD (D K_M_now 0) → sOwn N x y = some d' → d' < 4 := fun N x y d' e h => by have := sOwn_lt h; omega
  refine oCt.of (ls := [some (.inr (K_MOD, 0)), some (.inl s), some (.inl x), some (.inl y), none, none, none, none]) mok_Mod_would rfl rfl ?_
  refine oRun_ok 2 rfl ?_
  refine g_callV rfl rfl rfl rfl rfl mok_Mod_isStone (by decide) (c_Mod_isStone _ _) ?_
  rintro r2 M2 ⟨rfl, e⟩; rw [e]
  rw [hN]
  refine g_if_eq rfl (fun h5 => ?_) (fun h5 => ?_)
  · refine oRun_ok 1 rfl ?_
    exact g_iret rfl rfl rfl (oQM.same hD (if_pos h5))
  · refine oRun_ok 2 rfl ?_
    refine g_callS rfl rfl rfl rfl mok_Mod_isSpot (by decide) (c_Mod_isSpot _ _ _) ?_
    rintro r10 M10 ⟨rfl, e⟩; rw [e]
    refine g_if_ne rfl (fun h13 => ?_) (fun h13 => ?_)
    · obtain ⟨i, hi, hi8, rfl, ei⟩ := oHasS hI h5
      have h13 : ¬ f_Oak_isStonePlace x y = 0 := h13
      have hx := spot_in h13
      have fin : s_would D (nI i) x y = (nI (sCells (fun a b => decide (¬ sOwn (D K_M_now 0) a b = sOwn (n_move (D K_M_now 0) i x y) a b))), D) := (if_neg h5).trans ((if_neg h13).trans (by rw [ei]))
      obtain ⟨kN, -⟩ := hI.move hi hx
      have cD1 : cD (n_move (D K_M_now 0) i x y) = cD (D K_M_now 0) := by
        unfold cD
        rw [n_move_s hi8 2 (by omega)]
      refine oRun_ok 1 rfl ?_
      refine g_callV rfl rfl rfl rfl rfl mok_Mod_findHeld (by decide) (c_Mod_findHeld _ _ hN hI.ok) ?_
      rintro r1 M1 ⟨rfl, f1, f2, f3, f4⟩
      refine oRun_ok 2 rfl ?_
      have en : M1 K_M_now 0 = D K_M_now 0 := (f3 32 0 (oFh_no (by decide))).trans hN
      have mm1 := oMs_fh f3 f4
      have count : ∀ (M5 : oM) (x4 x5 : Option oV), M5 K_M_now 0 = D K_M_now 0 → (∀ c, c < 900 → M5 K_M_owners 0 c = oFst (sOwn (D K_M_now 0) (c / 30 : Nat) (c % 30 : Nat))) → (∀ c, c < 900 → ∀ e, e < cD (n_move (D K_M_now 0) i x y) → tb (M5 K_M_heldBy 0 c) e = sHeld (n_move (D K_M_now 0) i x y) e (c / 30 : Nat) (c % 30 : Nat)) → (∀ d, d < cD (n_move (D K_M_now 0) i x y) → M5 K_M_ranks 0 d = sRk (n_move (D K_M_now 0) i x y) d) → oPs D M5 → oFr oMdl M M5 → ∀ (q k : Nat), k + q = 900 → oG k_Mod_would 7 139 [some (.inr (K_MOD, 0)), some (.inl (nI i)), some (.inl x), some (.inl y), x4, x5, some (.inl (nI (sCnt (fun c => decide (¬ sOwn (D K_M_now 0) (c / 30 : Nat) (c % 30 : Nat) = sOwn (n_move (D K_M_now 0) i x y) (c / 30 : Nat) (c % 30 : Nat))) k))), some (.inl (nI k))] [] M5 (oQM (s_would D (nI i) x y) M) := by
        intro M5 x4 x5 e5 o5 h5 r5 p5 m5 q
        have en5 : M5 K_M_now 0 2 = nI (cD (n_move (D K_M_now 0) i x y)) := by
          rw [e5, cD1]
          exact hDD
        induction q with
        | zero =>
          intro k hk
          obtain rfl : k = 900 := by omega
          refine oRun_ok 2 rfl ?_
          refine g_ic_ge rfl (fun _ => ?_) (fun h => absurd (Int32.le_refl _) h)
          refine oRun_ok 1 rfl ?_
          exact g_iret rfl rfl rfl (oQM.of fin p5 m5)
        | succ q ih =>
          intro k hk
          refine oRun_ok 2 rfl ?_
          refine g_ic_ge rfl (fun h => ?_) (fun _ => ?_)
          · have h : nI 900 ≤ nI k := h
            rw [nIle (by omega) (by omega)] at h
            omega
          refine oRun_ok 4 rfl ?_
          refine g_iald k rfl rfl rfl (by omega) ?_
          rw [show M5 42 0 k = _ from o5 k (by omega)]
          refine oRun_ok 2 rfl ?_
          refine g_callV rfl rfl rfl rfl rfl mok_Mod_ownerOf (by decide) (c_Mod_ownerOf _ k _ en5 (by omega) (by omega)) ?_
          rintro r N1 ⟨rfl, e⟩; rw [e, own_fh (by omega) h5 r5]
          have le := sCnt_le (fun c => decide (¬ sOwn (D K_M_now 0) (c / 30 : Nat) (c % 30 : Nat) = sOwn (n_move (D K_M_now 0) i x y) (c / 30 : Nat) (c % 30 : Nat))) k
          have ih' := ih (k + 1) (by omega)
          rw [sCnt] at ih'
          have inj := oFst_inj (o := sOwn (D K_M_now 0) (k / 30 : Nat) (k % 30 : Nat)) (p := sOwn (n_move (D K_M_now 0) i x y) (k / 30 : Nat) (k % 30 : Nat)) (ol _ _ _ · rfl ·) (ol _ _ _ · cD1 ·)
          refine g_ic_ne rfl (fun h => ?_) (fun h => ?_)
          · rw [inj] at h
            rw [decide_eq_true h, if_pos rfl] at ih'
            refine oRun_ok 5 rfl ?_
            rw [nI_1, nI_1]
            exact ih'
          · rw [inj] at h
            rw [decide_eq_false (fun z => z h)] at ih'
            refine oRun_ok 6 rfl ?_
            rw [nI_1, Int32.add_zero]
            exact ih'
      have loop : ∀ (q k : Nat) (M2 : oM), k + q = 900 → (∀ c, c < k → M2 K_M_owners 0 c = oFst (sOwn (D K_M_now 0) (c / 30 : Nat) (c % 30 : Nat))) → oFr (oKi K_M_owners 0) M1 M2 → oG k_Mod_would 7 26 [some (.inr (K_MOD, 0)), some (.inl (nI i)), some (.inl x), some (.inl y), some (.inl (nI k)), none, none, none] [] M2 (oQM (s_would D (nI i) x y) M) := by
        intro q
        induction q with
        | zero =>
          intro k M2 hk h1 hF
          obtain rfl : k = 900 := by omega
          have en2 : M2 32 0 = D K_M_now 0 := (hF 32 0 (fun q => absurd q.1 (by decide))).trans en
          refine oRun_ok 2 rfl ?_
          refine g_ic_ge rfl (fun _ => ?_) (fun h => absurd (Int32.le_refl _) h)
          have i1 : (4 : Int32) + 2 * nI i = nI (4 + 2 * i) := by simp only [L4, L2, nI_times, nI_plus]
          have i2 : (4 : Int32) + 2 * nI i + 1 = nI (4 + 2 * i + 1) := by simp only [L4, L2, L1, nI_times, nI_plus]
          refine oRun_ok 7 rfl ?_
          refine g_iald (4 + 2 * i) rfl rfl i1 (by omega) ?_
          refine oRun_ok 10 rfl ?_
          refine g_iald (4 + 2 * i + 1) rfl rfl i2 (by omega) ?_
          rw [en2]
          refine oRun_ok 9 rfl ?_
          refine g_iast (4 + 2 * i) rfl rfl i1 (by omega) ?_
          refine oRun_ok 10 rfl ?_
          refine g_iast (4 + 2 * i + 1) rfl rfl i2 (by omega) ?_
          refine oRun_ok 1 rfl ?_
          have en3 : oUp (oUp M2 32 0 (4 + 2 * i) x) 32 0 (4 + 2 * i + 1) y K_M_now 0 = n_move (D K_M_now 0) i x y := by
            rw [oUp_upd, oUp_upd, en2]
            rfl
          refine g_callV rfl rfl rfl rfl rfl mok_Mod_findHeld (by decide) (c_Mod_findHeld _ _ en3 kN) ?_
          rintro r3 M3 ⟨rfl, a1, a2, a3, a4⟩
          refine oRun_ok 8 rfl ?_
          refine g_iast (4 + 2 * i) rfl rfl i1 (by omega) ?_
          refine oRun_ok 10 rfl ?_
          refine g_iast (4 + 2 * i + 1) rfl rfl i2 (by omega) ?_
          refine oRun_ok 4 rfl ?_
          have en4 : M3 K_M_now 0 = n_move (D K_M_now 0) i x y := (a3 32 0 (oFh_no (by decide))).trans en3
          have back : oUp (oUp M3 32 0 (4 + 2 * i) (D K_M_now 0 (4 + 2 * i))) 32 0 (4 + 2 * i + 1) (D K_M_now 0 (4 + 2 * i + 1)) K_M_now 0 = D K_M_now 0 := by
            rw [oUp_upd, oUp_upd, en4]
            funext j
            unfold n_move
            by_cases z : j = 4 + 2 * i + 1
            · rw [z, upd_eq]
            · by_cases z2 : j = 4 + 2 * i
              · rw [z2]
                repeat (first | rw [upd_ne (by omega)] | rw [upd_eq])
              · repeat (first | rw [upd_ne (by omega)] | rw [upd_eq])
          have other : ∀ k, ¬ k = K_M_now → oUp (oUp M3 32 0 (4 + 2 * i) (D K_M_now 0 (4 + 2 * i))) 32 0 (4 + 2 * i + 1) (D K_M_now 0 (4 + 2 * i + 1)) k = M3 k := fun k hk => by rw [oUp_k hk, oUp_k hk]
          have mm3 := oMs_fh a3 a4
          have fM : oFr oMdl M (oUp (oUp M3 32 0 (4 + 2 * i) (D K_M_now 0 (4 + 2 * i))) 32 0 (4 + 2 * i + 1) (D K_M_now 0 (4 + 2 * i + 1))) := ((((mm1.md.tr (hF.mono (fun k i q => by rw [q.1]; exact ⟨by decide, by decide⟩))).tr ((oFr.rf.mdl (by decide)).mdl (by decide))).tr mm3.md).mdl (by decide)).mdl (by decide)
          have pM : oPs D (oUp (oUp M3 32 0 (4 + 2 * i) (D K_M_now 0 (4 + 2 * i))) 32 0 (4 + 2 * i + 1) (D K_M_now 0 (4 + 2 * i + 1))) := by
            have h12 : ∀ k, ¬ k = K_M_owners → M2 k 0 = M1 k 0 := fun k hk => hF k 0 (fun q => hk q.1)
            have p1 := hD.tr mm1.ps
            refine ⟨fun k hk => ?_, ?_, ?_, ?_⟩
            · by_cases z : k = K_M_now
              · rw [z]
                exact back
              · rw [other k z, mm3.ps.1 k hk, oUp_k z, oUp_k z, h12 k (fun w => by rw [w] at hk; revert hk; decide)]
                exact p1.1 k hk
            · rw [other K_MOD (by decide), mm3.2.1, oUp_k (by decide), oUp_k (by decide), h12 K_MOD (by decide)]
              exact p1.2.1
            · rw [other K_MOD (by decide), mm3.2.2.1, oUp_k (by decide), oUp_k (by decide), h12 K_MOD (by decide)]
              exact p1.2.2.1
            · rw [other K_MOD (by decide), mm3.2.2.2, oUp_k (by decide), oUp_k (by decide), h12 K_MOD (by decide)]
              exact p1.2.2.2
          refine count _ _ _ back (fun c hc => ?_) (fun c hc e he => ?_) (fun d hd => ?_) pM fM 900 0 (by omega)
          · rw [other _ (by decide), a3 K_M_owners 0 (oFh_no (by decide)), oUp_k (by decide), oUp_k (by decide)]
            exact h1 c hc
          · rw [other _ (by decide)]
            exact a1 c hc e he
          · rw [other _ (by decide)]
            exact a2 d hd
        | succ q ih =>
          intro k M2 hk h1 hF
          have en2 : M2 K_M_now 0 2 = nI (cD (D K_M_now 0)) := by
            rw [(hF 32 0 (fun q => absurd q.1 (by decide))).trans en]
            exact hDD
          have eh : M2 K_M_heldBy 0 = M1 K_M_heldBy 0 := hF _ 0 (fun q => absurd q.1 (by decide))
          have er : M2 K_M_ranks 0 = M1 K_M_ranks 0 := hF _ 0 (fun q => absurd q.1 (by decide))
          refine oRun_ok 2 rfl ?_
          refine g_ic_ge rfl (fun h => ?_) (fun _ => ?_)
          · have h : nI 900 ≤ nI k := h
            rw [nIle (by omega) (by omega)] at h
            omega
          refine oRun_ok 5 rfl ?_
          refine g_callV rfl rfl rfl rfl rfl mok_Mod_ownerOf (by decide) (c_Mod_ownerOf _ k _ en2 d4 (by omega)) ?_
          rintro r N1 ⟨rfl, e⟩; rw [e, own_fh (by omega) (by rw [eh]; exact f1) (by rw [er]; exact f2)]
          refine g_iast k rfl rfl rfl (by omega) ?_
          refine oRun_ok 2 rfl ?_
          rw [nI_1]
          refine ih (k + 1) _ (by omega) (fun c hc => ?_) (hF.up ⟨rfl, rfl⟩)
          by_cases z : c = k
          · rw [z]
            exact oUp_self
          · exact (oUp_j z).trans (h1 c (by omega))
      exact loop 900 0 M1 (by omega) (fun c hc => absurd hc (by omega)) oFr.rf
    · refine oRun_ok 1 rfl ?_
      exact g_iret rfl rfl rfl (oQM.same hD ((if_neg h5).trans (if_pos h13)))

