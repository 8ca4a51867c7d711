/-! ===== findHeld; over, whose, owned ===== -/
def oFh : Nat → Nat → Prop := fun k i => oMf k i ∨ k = K_M_heldBy ∨ k = K_M_ranks
theorem oMs_fh {M M' : oM} (hF : oFr oFh M M') (h7 : oM7 M M') : oMs M M' :=
  ⟨hF.mono (fun k i q => by rcases q with ((q | q | q | q) | (q | q) | (q | q)) | q | q <;> rw [q] <;> (show _ ∨ _; simp)), h7 3 (by decide), h7 14 (by decide), h7 40 (by decide)⟩
theorem oFh_no {k i : Nat} (h : ¬ (k = K_MOD ∨ k = K_M_kinds ∨ k = K_M_ways ∨ k = K_M_lengths ∨ k = K_M_cornerX ∨ k = K_M_cornerY ∨ k = K_M_stack ∨ k = K_M_facts ∨ k = K_M_heldBy ∨ k = K_M_ranks)) : ¬ oFh k i := by
  rintro (((q | q | q | q) | (q | q) | (q | q)) | q | q)
  · exact h (Or.inl q)
  · exact h (Or.inr (Or.inl q))
  · exact h (Or.inr (Or.inr (Or.inl q)))
  · exact h (Or.inr (Or.inr (Or.inr (Or.inl q))))
  · exact h (Or.inr (Or.inr (Or.inr (Or.inr (Or.inl q)))))
  · exact h (Or.inr (Or.inr (Or.inr (Or.inr (Or.inr (Or.inl q))))))
  · exact h (Or.inr (Or.inr (Or.inr (Or.inr (Or.inr (Or.inr (Or.inl q)))))))
  · exact h (Or.inr (Or.inr (Or.inr (Or.inr (Or.inr (Or.inr (Or.inr (Or.inl q))))))))
  · exact h (Or.inr (Or.inr (Or.inr (Or.inr (Or.inr (Or.inr (Or.inr (Or.inr (Or.inl q)))))))))
  · exact h (Or.inr (Or.inr (Or.inr (Or.inr (Or.inr (Or.inr (Or.inr (Or.inr (Or.inr q)))))))))
theorem oM7.rf {M : oM} : oM7 M M := fun _ _ => rfl
theorem oM7.tr {M M1 M2 : oM} (h1 : oM7 M M1) (h2 : oM7 M1 M2) : oM7 M M2 := fun j hj => (h2 j hj).trans (h1 j hj)
theorem oM7.k {M M1 : oM} (h : M1 K_MOD 0 = M K_MOD 0) : oM7 M M1 := fun j _ => by rw [h]
theorem oMf_no {k i : Nat} (h : k = K_M_heldBy ∨ k = K_M_ranks ∨ k = K_M_owners) : ¬ oMf k i := by
  rintro ((q | q | q | q) | (q | q) | (q | q)) <;> rw [q] at h <;> exact absurd h (by decide)
def Q_fh (M : oM) (N : Nat → Int32) : Option Int32 → oM → Prop := fun r M' => r = none ∧ (∀ c, c < 900 → ∀ e, e < cD N → tb (M' K_M_heldBy 0 c) e = sHeld N e (c / 30 : Nat) (c % 30 : Nat)) ∧ (∀ d, d < cD N → M' K_M_ranks 0 d = sRk N d) ∧ oFr oFh M M' ∧ oM7 M M'
theorem c_Mod_findHeld (M : oM) (N : Nat → Int32) (hn : M K_M_now 0 = N) (hN : oNOk N) : oCt 5 k_Mod_findHeld [.inr (K_MOD, 0)] M (Q_fh M N) := by
  obtain ⟨hDD, d4⟩ := oND hN
  refine oCt.of (ls := [some (.inr (K_MOD, 0)), none, none, none]) mok_Mod_findHeld rfl rfl ?_
  have inner : ∀ (d : Nat) (gp : Int32), d < cD N → ∀ (q k : Nat) (M1 : oM), k + q = 900 →
      (∀ c, c < 900 → ∀ e, e < 4 → tb (M1 K_M_heldBy 0 c) e = (decide (e < (if c < k then d + 1 else d)) && sHeld N e (c / 30 : Nat) (c % 30 : Nat))) →
      (∀ e, e < d + 1 → M1 K_M_ranks 0 e = sRk N e) → M1 K_MOD 0 7 = nI (cC N d) →
      (∀ j, j ≤ cC N d → M1 K_M_cornerX 0 j = (sC N d (sNd N d) (sCh N d) j).1 ∧ M1 K_M_cornerY 0 j = (sC N d (sNd N d) (sCh N d) j).2) → oFr oFh M M1 → oM7 M M1 →
      (∀ M2 : oM, (∀ c, c < 900 → ∀ e, e < 4 → tb (M2 K_M_heldBy 0 c) e = (decide (e < d + 1) && sHeld N e (c / 30 : Nat) (c % 30 : Nat))) → (∀ e, e < d + 1 → M2 K_M_ranks 0 e = sRk N e) → oFr oFh M M2 → oM7 M M2 → oG k_Mod_findHeld 5 97 [some (.inr (K_MOD, 0)), some (.inl (nI d)), some (.inl gp), some (.inl (nI 900))] [] M2 (Q_fh M N)) →
      oG k_Mod_findHeld 5 53 [some (.inr (K_MOD, 0)), some (.inl (nI d)), some (.inl gp), some (.inl (nI k))] [] M1 (Q_fh M N) := by
    intro d gp hd q
    obtain ⟨hC, c10⟩ := oNC (hN.2.2.2.2.1 d hd)
    induction q with
    | zero =>
      intro k M1 hk h1 h2 h7 h3 hF hm go
      obtain rfl : k = 900 := by omega
      refine oRun_ok 2 rfl ?_
      refine g_ic_ge rfl (fun _ => ?_) (fun h => absurd (Int32.le_refl _) h)
      refine go M1 (fun c hc e he => ?_) h2 hF hm
      rw [h1 c hc e he, if_pos hc]
    | succ q ih =>
      intro k M1 hk h1 h2 h7 h3 hF hm go
      refine oRun_ok 2 rfl ?_
      refine g_ic_ge rfl (fun h => ?_) (fun _ => ?_)
      · have h : nI 900 ≤ nI k := h
        rw [nIle (by omega) (by omega)] at h
        omega
      refine oRun_ok 4 rfl ?_
      refine g_iald k rfl rfl rfl (by omega) ?_
      refine oRun_ok 7 rfl ?_
      rw [show nI k / 30 = nI (k / 30) by rw [L30, nIdiv (by omega) (by decide) (by decide)], show oRem (nI k) 30 = nI (k % 30) by rw [L30, nIrem (by omega) (by decide) (by decide)]]
      refine g_callV rfl rfl rfl rfl rfl mok_Mod_isHeld (by decide) (c_Mod_isHeld _ _ _ _ h7 c10 (inR_n (m := 29) (by omega) (by decide)) (inR_n (m := 29) (by omega) (by decide)) (far_find hN hd h3)) ?_
      rintro r N1 ⟨rfl, e⟩; rw [e, held_find h3, nIt (by omega), nIt (by omega)]
      have join : ∀ v : Int32, (∀ e, e < 4 → tb v e = (decide (e = d) && sHeld N d (k / 30 : Nat) (k % 30 : Nat))) → oG k_Mod_findHeld 5 89 [some (.inr (K_MOD, 0)), some (.inl (nI d)), some (.inl gp), some (.inl (nI k))] [.inl v, .inl (M1 K_M_heldBy 0 k), .inl (nI k), .inr (K_M_heldBy, 0)] M1 (Q_fh M N) := by
        intro v hv
        refine oRun_ok 1 rfl ?_
        refine g_iast k rfl rfl rfl (by omega) ?_
        refine oRun_ok 2 rfl ?_
        rw [nI_1]
        refine ih (k + 1) _ (by omega) (fun c hc e he => ?_) (fun e he => ?_) ?_ (fun j hj => ?_) (hF.up (Or.inr (Or.inl rfl))) (hm.tr (oM7.k (by rw [oUp_k (by decide)]))) go
        · by_cases z : c = k
          · subst z
            rw [show oUp M1 K_M_heldBy 0 c (M1 K_M_heldBy 0 c ||| v) K_M_heldBy 0 c = _ from oUp_self, tb_or, hv e he, h1 c hc e he, if_neg (by omega), if_pos (by omega)]
            by_cases y : e = d
            · subst y
              simp
            · by_cases y2 : e < d
              · rw [decide_eq_true y2, decide_eq_false y, decide_eq_true (show e < d + 1 by omega)]
                simp
              · rw [decide_eq_false y2, decide_eq_false y, decide_eq_false (show ¬ e < d + 1 by omega)]
                simp
          · rw [oUp_j z, h1 c hc e he]
            congr 2
            by_cases y : c < k
            · rw [if_pos y, if_pos (by omega)]
            · rw [if_neg y, if_neg (by omega)]
        · rw [oUp_k (by decide)]
          exact h2 e he
        · rw [oUp_k (by decide)]
          exact h7
        · rw [oUp_k (k' := K_M_cornerX) (by decide), oUp_k (k' := K_M_cornerY) (by decide)]
          exact h3 j hj
      refine g_if_eq rfl (fun h => ?_) (fun h => ?_)
      · refine oRun_ok 1 rfl ?_
        refine join 0 (fun e he => ?_)
        rw [tb_0, bI_eq0.mp h, Bool.and_false]
      · refine oRun_ok 4 rfl ?_
        refine join _ (fun e he => ?_)
        rw [tb_shl (by omega), bI_ne.mp h, Bool.and_true]
  have outer : ∀ (q d : Nat) (M1 : oM) (x2 x3 : Option oV), d + q = cD N → (∀ c, c < 900 → ∀ e, e < 4 → tb (M1 K_M_heldBy 0 c) e = (decide (e < d) && sHeld N e (c / 30 : Nat) (c % 30 : Nat))) → (∀ e, e < d → M1 K_M_ranks 0 e = sRk N e) → oFr oFh M M1 → oM7 M M1 → oG k_Mod_findHeld 5 24 [some (.inr (K_MOD, 0)), some (.inl (nI d)), x2, x3] [] M1 (Q_fh M N) := by
    intro q
    induction q with
    | zero =>
      intro d M1 x2 x3 hd h1 h2 hF hm
      obtain rfl : d = cD N := by omega
      refine oRun_ok 4 rfl ?_
      refine g_iald 2 rfl rfl rfl (by decide) ?_
      rw [show M1 32 0 = N from (hF 32 0 (oFh_no (by decide))).trans hn, hDD]
      refine g_ic_ge rfl (fun _ => ?_) (fun h => absurd (Int32.le_refl _) h)
      refine g_ret rfl rfl ⟨rfl, fun c hc e he => ?_, h2, hF, hm⟩
      rw [h1 c hc e (by omega), decide_eq_true he, Bool.true_and]
    | succ q ih =>
      intro d M1 x2 x3 hd h1 h2 hF hm
      have en : M1 K_M_now 0 = N := (hF 32 0 (oFh_no (by decide))).trans hn
      refine oRun_ok 4 rfl ?_
      refine g_iald 2 rfl rfl rfl (by decide) ?_
      rw [show M1 32 0 = N from en, hDD]
      refine g_ic_ge rfl (fun h => ?_) (fun _ => ?_)
      · rw [nIle (by omega) (by omega)] at h
        omega
      refine oRun_ok 2 rfl ?_
      refine g_callV rfl rfl rfl rfl rfl mok_Mod_findCorners (by decide) (c_Mod_findCorners _ N d en hN (by omega)) ?_
      rintro r1 M2 ⟨rfl, f1, f2, f3, f4, f5⟩
      have en2 : M2 K_M_now 0 = N := (f5 32 0 oMf_now).trans en
      refine oRun_ok 6 rfl ?_
      refine g_callV rfl rfl rfl rfl rfl mok_Mod_rankOf (by decide) (c_Mod_rankOf _ N d en2 hN (by omega)) ?_
      rintro r2 M3 ⟨rfl, g1⟩
      have g1k : ∀ k, ¬ k = K_M_stack → ¬ k = K_M_facts → M3 k 0 = M2 k 0 := fun k q1 q2 => g1 k 0 (fun z => z.elim q1 q2)
      have hF3 : oFr oFh M M3 := (hF.tr (f5.mono (fun k i q => Or.inl q))).tr (g1.mono (fun k i q => Or.inl (Or.inr (Or.inr q))))
      refine g_iast d rfl rfl rfl (by omega) ?_
      refine oRun_ok 2 rfl ?_
      refine inner d _ (by omega) 900 0 _ (by omega) (fun c hc e he => ?_) (fun e he => ?_) ?_ (fun j hj => ?_) (hF3.up (Or.inr (Or.inr rfl))) ((hm.tr f2).tr (oM7.k (by rw [oUp_k (by decide), g1k _ (by decide) (by decide)]))) ?_
      · rw [oUp_k (by decide), g1k _ (by decide) (by decide), f5 _ _ (oMf_no (Or.inl rfl)), h1 c hc e he, if_neg (by omega)]
      · by_cases z : e = d
        · rw [z]
          exact oUp_self
        · refine (oUp_j z).trans ?_
          rw [show M3 41 0 = M2 41 0 from g1k _ (by decide) (by decide), f5 41 0 (oMf_no (Or.inr (Or.inl rfl)))]
          exact h2 e (by omega)
      · rw [oUp_k (by decide), g1k _ (by decide) (by decide)]
        exact f1
      · rw [oUp_k (k' := K_M_cornerX) (by decide), oUp_k (k' := K_M_cornerY) (by decide), g1k K_M_cornerX (by decide) (by decide), g1k K_M_cornerY (by decide) (by decide)]
        exact f3 j hj
      · intro M4 a1 a2 a3 a4
        refine oRun_ok 2 rfl ?_
        rw [nI_1]
        exact ih (d + 1) M4 _ _ (by omega) a1 a2 a3 a4
  have zero : ∀ (q k : Nat) (M1 : oM), k + q = 900 → (∀ c, c < k → M1 K_M_heldBy 0 c = 0) → oFr oFh M M1 → oM7 M M1 → oG k_Mod_findHeld 5 2 [some (.inr (K_MOD, 0)), some (.inl (nI k)), none, none] [] M1 (Q_fh M N) := by
    intro q
    induction q with
    | zero =>
      intro k M1 hk h1 hF hm
      obtain rfl : k = 900 := by omega
      refine oRun_ok 2 rfl ?_
      refine g_ic_ge rfl (fun _ => ?_) (fun h => absurd (Int32.le_refl _) h)
      refine oRun_ok 2 rfl ?_
      refine outer (cD N) 0 M1 _ _ (by omega) (fun c hc e he => ?_) (fun e he => absurd he (by omega)) hF hm
      rw [h1 c hc, tb_0, decide_eq_false (by omega), Bool.false_and]
    | succ q ih =>
      intro k M1 hk h1 hF hm
      refine oRun_ok 2 rfl ?_
      refine g_ic_ge rfl (fun h => ?_) (fun _ => ?_)
      · have h : nI 900 ≤ nI k := h
        rw [nIle (by omega) (by omega)] at h
        omega
      refine oRun_ok 4 rfl ?_
      refine g_iast k rfl rfl rfl (by omega) ?_
      refine oRun_ok 2 rfl ?_
      rw [nI_1]
      refine ih (k + 1) _ (by omega) (fun c hc => ?_) (hF.up (Or.inr (Or.inl rfl))) (hm.tr (oM7.k (by rw [oUp_k (by decide)])))
      by_cases z : c = k
      · rw [z]
        exact oUp_self
      · exact (oUp_j z).trans (h1 c (by omega))
  refine oRun_ok 2 rfl ?_
  exact zero 900 0 M (by omega) (fun c hc => absurd hc (by omega)) oFr.rf oM7.rf
/-- whose a cell is, once all is found -/
theorem own_fh {M' : oM} {N : Nat → Int32} {c : Nat} (hc : c < 900) (h1 : ∀ c, c < 900 → ∀ e, e < cD N → tb (M' K_M_heldBy 0 c) e = sHeld N e (c / 30 : Nat) (c % 30 : Nat)) (h2 : ∀ d, d < cD N → M' K_M_ranks 0 d = sRk N d) : sFst (fun d => tb (M' K_M_heldBy 0 c) d) (M' K_M_ranks 0) (cD N) = sOwn N (c / 30 : Nat) (c % 30 : Nat) := by
  unfold sOwn
  exact sFst_congr (fun d hd => h1 c hc d hd) h2
-- over
def s_over (D : oM) (a b : Int32) : Int32 × oM := if f_Oak_isWithin a 0 (D K_M_now 0 2 - 1) = 0 then (vBAD, D) else if f_Oak_isWithin b 0 (D K_M_now 0 2 - 1) = 0 then (vBAD, D) else if a = b then (vBAD, D) else (nI (sCells (fun x y => sHeld (D K_M_now 0) a.toNatClampNeg x y && sHeld (D K_M_now 0) b.toNatClampNeg x y)), D)
theorem p_over (M D : oM) (a b : Int32) (hI : oI M D) : oCt 6 k_Oak_over [.inr (K_OAK, 0), .inl a, .inl b] M (oQC (s_over D a b) M) := by
  refine oCt.of (ls := [some (.inr (K_OAK, 0)), some (.inl a), some (.inl b), none, none]) mok_Oak_over rfl rfl ?_
  refine oRun_ok 3 rfl ?_
  refine g_callV rfl rfl rfl rfl rfl mok_Land_hasDeed (by decide) (c_Land_hasDeed _ 0 _) ?_
  rintro r5 M5 ⟨rfl, e⟩; rw [e]
  rw [hI.dd]
  refine g_if_eq rfl (fun h8 => ?_) (fun h8 => ?_)
  · refine oRun_ok 1 rfl ?_
    exact g_iret rfl rfl rfl (oQC.same hI (if_pos h8))
  · refine oRun_ok 3 rfl ?_
    refine g_callV rfl rfl rfl rfl rfl mok_Land_hasDeed (by decide) (c_Land_hasDeed _ 0 _) ?_
    rintro r16 M16 ⟨rfl, e⟩; rw [e]
    rw [hI.dd]
    refine g_if_eq rfl (fun h19 => ?_) (fun h19 => ?_)
    · refine oRun_ok 1 rfl ?_
      exact g_iret rfl rfl rfl (oQC.same hI ((if_neg h8).trans (if_pos h19)))
    · refine oRun_ok 2 rfl ?_
      refine g_ic_ne rfl (fun h24 => ?_) (fun h24 => ?_)
      · obtain ⟨i, hi, hi4, rfl, ei⟩ := oHasD hI h8
        obtain ⟨j, hj, hj4, rfl, ej⟩ := oHasD hI h19
        have hij : ¬ i = j := fun z => h24 (by rw [z])
        refine oRun_ok 5 rfl ?_
        refine g_callV rfl rfl rfl rfl rfl mok_Cells_fillDeed (by decide) (c_Cells_fillDeed _ _ 0 0 i hI.ok hI.rl hi) ?_
        rintro r1 M1 ⟨rfl, f1, f2⟩
        refine oRun_ok 5 rfl ?_
        refine g_callV rfl rfl rfl rfl rfl mok_Cells_fillDeed (by decide) (c_Cells_fillDeed _ _ 0 0 j hI.ok (oRL_kp (f2.kp (oCs_kp _ _)) hI.rl) hj) ?_
        rintro r2 M2 ⟨rfl, g1, g2⟩
        refine oRun_ok 4 rfl ?_
        have f1' : ∀ y, y < 30 → ∀ x : Nat, tb (M2 K_HROW (4 * 0 + i) y) x = (decide (x < 30) && sHeld (D K_M_now 0) i x y) := by
          intro y hy x
          rw [g2 K_HROW (4 * 0 + i) (fun q => by
            rcases q with (q | ⟨-, q⟩) | ⟨-, q⟩
            · exact absurd q (by decide)
            · exact absurd q (by decide)
            · omega)]
          exact f1 y hy x
        have bits : ∀ y, y < 30 → ∀ x : Nat, tb (M2 K_HROW (4 * 0 + i) y &&& M2 K_HROW (4 * 0 + j) y) x = true ↔ x < 30 ∧ (sHeld (D K_M_now 0) i x y && sHeld (D K_M_now 0) j x y) = true := by
          intro y hy x
          rw [tb_and, f1' y hy x, g1 y hy x]
          simp only [Bool.and_eq_true, decide_eq_true_eq]
          constructor
          · rintro ⟨⟨q1, q2⟩, -, q3⟩
            exact ⟨q1, q2, q3⟩
          · rintro ⟨q1, q2, q3⟩
            exact ⟨⟨q1, q2⟩, q1, q3⟩
        have fin : s_over D (nI i) (nI j) = (nI (sSum (fun y => sCnt (tb (M2 K_HROW (4 * 0 + i) y &&& M2 K_HROW (4 * 0 + j) y)) 32) 30), D) := (if_neg h8).trans ((if_neg h19).trans ((if_neg h24).trans (by rw [ei, ej, rows_cells (p := fun x y => sHeld (D K_M_now 0) i x y && sHeld (D K_M_now 0) j x y) bits])))
        have loop : ∀ (q k : Nat), k + q = 30 → oG k_Oak_over 6 59 [some (.inr (K_OAK, 0)), some (.inl (nI i)), some (.inl (nI j)), some (.inl (nI (sSum (fun y => sCnt (tb (M2 K_HROW (4 * 0 + i) y &&& M2 K_HROW (4 * 0 + j) y)) 32) k))), some (.inl (nI k))] [] M2 (oQC (s_over D (nI i) (nI j)) M) := by
          intro q
          induction q with
          | zero =>
            intro k hk
            obtain rfl : k = 30 := by omega
            refine oRun_ok 2 rfl ?_
            refine g_ic_ge rfl (fun _ => ?_) (fun h => absurd (Int32.le_refl _) h)
            refine oRun_ok 1 rfl ?_
            exact g_iret rfl rfl rfl (oQC.look hI fin (f2.cs.tr g2.cs))
          | succ q ih =>
            intro k hk
            refine oRun_ok 2 rfl ?_
            refine g_ic_ge rfl (fun h => ?_) (fun _ => ?_)
            · have h : nI 30 ≤ nI k := h
              rw [nIle (by omega) (by omega)] at h
              omega
            refine oRun_ok 5 rfl ?_
            refine g_aald i rfl rfl rfl hi4 rfl ?_
            refine oRun_ok 1 rfl ?_
            refine g_iald k rfl rfl rfl (by omega) ?_
            refine oRun_ok 4 rfl ?_
            refine g_aald j rfl rfl rfl hj4 rfl ?_
            refine oRun_ok 1 rfl ?_
            refine g_iald k rfl rfl rfl (by omega) ?_
            refine oRun_ok 1 rfl ?_
            refine g_callS rfl rfl rfl rfl mok_Integer_bitCount (by decide) (c_Integer_bitCount _ _) ?_
            rintro r N1 ⟨rfl, e⟩; rw [e, bitCount_ok]
            refine oRun_ok 4 rfl ?_
            rw [nI_plus, nI_1]
            exact ih (k + 1) (by omega)
        exact loop 30 0 (by omega)
      · refine oRun_ok 1 rfl ?_
        exact g_iret rfl rfl rfl (oQC.same hI ((if_neg h8).trans ((if_neg h19).trans (if_pos h24))))
theorem q_over (C M D : oM) (a b : Int32) (hI : oI C D) (hD : oPs D M) : oCt 6 k_Mod_over [.inr (K_MOD, 0), .inl a, .inl b] M (oQM (s_over D a b) M) := by
  have hN := hD.now
  refine oCt.of (ls := [some (.inr (K_MOD, 0)), some (.inl a), some (.inl b), none, none]) mok_Mod_over rfl rfl ?_
  refine oRun_ok 2 rfl ?_
  refine g_callV rfl rfl rfl rfl rfl mok_Mod_isDeed (by decide) (c_Mod_isDeed _ _) ?_
  rintro r2 M2 ⟨rfl, e⟩; rw [e]
  rw [hN]
  refine g_if_eq rfl (fun h5 => ?_) (fun h5 => ?_)
  · refine oRun_ok 1 rfl ?_
    exact g_iret rfl rfl rfl (oQM.same hD (if_pos h5))
  · refine oRun_ok 2 rfl ?_
    refine g_callV rfl rfl rfl rfl rfl mok_Mod_isDeed (by decide) (c_Mod_isDeed _ _) ?_
    rintro r10 M10 ⟨rfl, e⟩; rw [e]
    rw [hN]
    refine g_if_eq rfl (fun h13 => ?_) (fun h13 => ?_)
    · refine oRun_ok 1 rfl ?_
      exact g_iret rfl rfl rfl (oQM.same hD ((if_neg h5).trans (if_pos h13)))
    · refine oRun_ok 2 rfl ?_
      refine g_ic_ne rfl (fun h18 => ?_) (fun h18 => ?_)
      · obtain ⟨i, hi, hi4, rfl, ei⟩ := oHasD hI h5
        obtain ⟨j, hj, hj4, rfl, ej⟩ := oHasD hI h13
        refine oRun_ok 1 rfl ?_
        refine g_callV rfl rfl rfl rfl rfl mok_Mod_findHeld (by decide) (c_Mod_findHeld _ _ hN hI.ok) ?_
        rintro r1 M1 ⟨rfl, f1, f2, f3, f4⟩
        refine oRun_ok 4 rfl ?_
        have fin : s_over D (nI i) (nI j) = (nI (sCnt (fun c => sHeld (D K_M_now 0) i (c / 30 : Nat) (c % 30 : Nat) && sHeld (D K_M_now 0) j (c / 30 : Nat) (c % 30 : Nat)) 900), D) := (if_neg h5).trans ((if_neg h13).trans ((if_neg h18).trans (by rw [ei, ej]; rfl)))
        have loop : ∀ (q k : Nat), k + q = 900 → oG k_Mod_over 6 33 [some (.inr (K_MOD, 0)), some (.inl (nI i)), some (.inl (nI j)), some (.inl (nI (sCnt (fun c => sHeld (D K_M_now 0) i (c / 30 : Nat) (c % 30 : Nat) && sHeld (D K_M_now 0) j (c / 30 : Nat) (c % 30 : Nat)) k))), some (.inl (nI k))] [] M1 (oQM (s_over D (nI i) (nI j)) M) := by
          intro q
          induction q with
          | zero =>
            intro k hk
            obtain rfl : k = 900 := by omega
            refine oRun_ok 2 rfl ?_
            refine g_ic_ge rfl (fun _ => ?_) (fun h => absurd (Int32.le_refl _) h)
            refine oRun_ok 1 rfl ?_
            exact g_iret rfl rfl rfl (oQM.look hD fin (oMs_fh f3 f4))
          | succ q ih =>
            intro k hk
            refine oRun_ok 2 rfl ?_
            refine g_ic_ge rfl (fun h => ?_) (fun _ => ?_)
            · have h : nI 900 ≤ nI k := h
              rw [nIle (by omega) (by omega)] at h
              omega
            refine oRun_ok 4 rfl ?_
            refine g_iald k rfl rfl rfl (by omega) ?_
            refine oRun_ok 5 rfl ?_
            refine g_iald k rfl rfl rfl (by omega) ?_
            refine oRun_ok 9 rfl ?_
            rw [and_1, tb_and, tb_shr _ (by omega), tb_shr _ (by omega), show tb (M1 40 0 k) i = _ from f1 k (by omega) i hi, show tb (M1 40 0 k) j = _ from f1 k (by omega) j hj]
            have le := sCnt_le (fun c => sHeld (D K_M_now 0) i (c / 30 : Nat) (c % 30 : Nat) && sHeld (D K_M_now 0) j (c / 30 : Nat) (c % 30 : Nat)) k
            have ih' := ih (k + 1) (by omega)
            rw [sCnt] at ih'
            cases hb : (sHeld (D K_M_now 0) i (k / 30 : Nat) (k % 30 : Nat) && sHeld (D K_M_now 0) j (k / 30 : Nat) (k % 30 : Nat)) with
            | false =>
              rw [hb] at ih'
              rw [nI_1, show bI false = 0 from rfl, Int32.add_zero]
              exact ih'
            | true =>
              rw [hb, if_pos rfl] at ih'
              rw [nI_1, show bI true = 1 from rfl, nI_1]
              exact ih'
        exact loop 900 0 (by omega)
      · refine oRun_ok 1 rfl ?_
        exact g_iret rfl rfl rfl (oQM.same hD ((if_neg h5).trans ((if_neg h13).trans (if_pos h18))))

