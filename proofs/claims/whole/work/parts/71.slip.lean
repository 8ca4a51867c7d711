/-! ===== slip ===== -/
theorem c_Mod_exchange (M : oM) (kd c : Nat) (hk : oKD kd = .inr (0, 10, none)) (hq : Nat.beq kd K_OPQ = false) (hc : c + 1 < 10) : oCt 0 k_Mod_exchange [.inr (K_MOD, 0), .inr (kd, 0), .inl (nI c)] M (fun r M' => r = none ∧ (∀ j, M' kd 0 j = if j = c then M kd 0 (c + 1) else if j = c + 1 then M kd 0 c else M kd 0 j) ∧ oFr (oKi kd 0) M M') := by
  refine oCt.of (ls := [some (.inr (K_MOD, 0)), some (.inr (kd, 0)), some (.inl (nI c)), none]) mok_Mod_exchange rfl rfl ?_
  refine g_aload_n rfl rfl hq ?_
  refine oRun_ok 1 rfl ?_
  refine g_iald c rfl hk rfl (by omega) ?_
  refine oRun_ok 1 rfl ?_
  refine g_aload_n rfl rfl hq ?_
  refine oRun_ok 1 rfl ?_
  refine g_aload_n rfl rfl hq ?_
  refine oRun_ok 3 rfl ?_
  rw [nI_1]
  refine g_iald (c + 1) rfl hk rfl (by omega) ?_
  refine g_iast c rfl hk rfl (by omega) ?_
  refine g_aload_n rfl rfl hq ?_
  refine oRun_ok 4 rfl ?_
  rw [nI_1]
  refine g_iast (c + 1) rfl hk rfl (by omega) ?_
  refine g_ret rfl rfl ⟨rfl, fun j => ?_, (oFr.rf.up ⟨rfl, rfl⟩).up ⟨rfl, rfl⟩⟩
  by_cases z : j = c + 1
  · subst z
    rw [if_neg (by omega), if_pos rfl]
    exact oUp_self
  · refine (oUp_j z).trans ?_
    by_cases y : j = c
    · subst y
      rw [if_pos rfl]
      exact oUp_self
    · rw [if_neg y, if_neg z]
      exact oUp_j y
def Q_sl (M : oM) (N : Nat → Int32) (d s c : Nat) : Option Int32 → oM → Prop := fun r M' => r = none ∧ M' K_MOD 0 7 = nI (sSn s (cC N d)) ∧ (∀ j, j < sSn s (cC N d) → M' K_M_kinds 0 j = sSl s c (kA N d) j ∧ M' K_M_ways 0 j = sSw s c (wA N d) j ∧ M' K_M_lengths 0 j = sSl s c (lA N d) j) ∧ oFr oMt M M' ∧ oM7 M M'
theorem c_Mod_takeSlipped (M : oM) (N : Nat → Int32) (d s c : Nat) (hn : M K_M_now 0 = N) (hN : oNOk N) (hd : d < cD N) (hs : 1 ≤ s ∧ s ≤ 3) (hc : c < cC N d) (hc3 : s = 3 → c + 1 < cC N d) : oCt 2 k_Mod_takeSlipped [.inr (K_MOD, 0), .inl (nI d), .inl (nI s), .inl (nI c)] M (Q_sl M N d s c) := by
  obtain ⟨hC, c10⟩ := oNC (hN.2.2.2.2.1 d hd)
  refine oCt.of (ls := [some (.inr (K_MOD, 0)), some (.inl (nI d)), some (.inl (nI s)), some (.inl (nI c)), none]) mok_Mod_takeSlipped rfl rfl ?_
  refine oRun_ok 2 rfl ?_
  refine g_callV rfl rfl rfl rfl rfl mok_Mod_takeCalls (by decide) (c_Mod_takeCalls M N d hn hN hd) ?_
  rintro r1 M1 ⟨rfl, a7, ao, aa, af⟩
  refine oRun_ok 2 rfl ?_
  have s3 : s = 1 ∨ s = 2 ∨ s = 3 := by omega
  rcases s3 with rfl | rfl | rfl
  · refine g_ic_ne rfl (fun z => absurd rfl z) (fun _ => ?_)
    have e1 : sSn 1 (cC N d) = cC N d - 1 := rfl
    unfold Q_sl
    rw [e1]
    refine oRun_ok 8 rfl ?_
    rw [show M1 31 0 7 - 1 = nI (cC N d - 1) by rw [show M1 31 0 7 = _ from a7]; exact nIsub (b := 1) (by omega)]
    generalize hQ : (fun (r : Option Int32) (M' : oM) => r = none ∧ M' K_MOD 0 7 = nI (cC N d - 1) ∧ (∀ j, j < cC N d - 1 → M' K_M_kinds 0 j = sSl 1 c (kA N d) j ∧ M' K_M_ways 0 j = sSw 1 c (wA N d) j ∧ M' K_M_lengths 0 j = sSl 1 c (lA N d) j) ∧ oFr oMt M M' ∧ oM7 M M') = Q
    have sw1 : sSw 1 c (wA N d) = sSl 1 c (wA N d) := rfl
    have loop : ∀ (q k : Nat) (M2 : oM), k + q = cC N d - 1 → c ≤ k → M2 K_MOD 0 7 = nI (cC N d - 1) → (∀ j, j < k → M2 K_M_kinds 0 j = sSl 1 c (kA N d) j ∧ M2 K_M_ways 0 j = sSl 1 c (wA N d) j ∧ M2 K_M_lengths 0 j = sSl 1 c (lA N d) j) → (∀ j, k ≤ j → j < cC N d → M2 K_M_kinds 0 j = kA N d j ∧ M2 K_M_ways 0 j = wA N d j ∧ M2 K_M_lengths 0 j = lA N d j) → oFr oMt M M2 → oM7 M M2 → oG k_Mod_takeSlipped 2 23 [some (.inr (K_MOD, 0)), some (.inl (nI d)), some (.inl (nI 1)), some (.inl (nI c)), some (.inl (nI k))] [] M2 Q := by
      intro q
      induction q with
      | zero =>
        intro k M2 hk hck h7 h1 h2 hF hm
        obtain rfl : k = cC N d - 1 := by omega
        refine oRun_ok 3 rfl ?_
        rw [show M2 31 0 7 = _ from h7]
        refine g_ic_ge rfl (fun _ => ?_) (fun z => absurd (Int32.le_refl _) z)
        refine oRun_ok 1 rfl ?_
        refine g_ret rfl rfl ?_
        rw [← hQ]
        exact ⟨rfl, h7, h1, hF, hm⟩
      | succ q ih =>
        intro k M2 hk hck h7 h1 h2 hF hm
        refine oRun_ok 3 rfl ?_
        rw [show M2 31 0 7 = _ from h7]
        refine g_ic_ge rfl (fun z => ?_) (fun _ => ?_)
        · rw [nIle (by omega) (by omega)] at z
          omega
        refine oRun_ok 8 rfl ?_
        rw [nI_1]
        refine g_iald (k + 1) rfl rfl rfl (by omega) ?_
        refine g_iast k rfl rfl rfl (by omega) ?_
        refine oRun_ok 8 rfl ?_
        rw [nI_1]
        refine g_iald (k + 1) rfl rfl rfl (by omega) ?_
        refine g_iast k rfl rfl rfl (by omega) ?_
        refine oRun_ok 8 rfl ?_
        rw [nI_1]
        refine g_iald (k + 1) rfl rfl rfl (by omega) ?_
        refine g_iast k rfl rfl rfl (by omega) ?_
        refine oRun_ok 2 rfl ?_
        rw [nI_1]
        obtain ⟨b1, b2, b3⟩ := h2 (k + 1) (by omega) (by omega)
        have u1 : ∀ a b e, (oUp (oUp (oUp M2 35 0 k a) 36 0 k b) 37 0 k e) K_M_kinds 0 = upd (M2 K_M_kinds 0) k a := fun a b e => by rw [oUp_k (by decide), oUp_k (by decide), oUp_upd]
        have u2 : ∀ a b e, (oUp (oUp (oUp M2 35 0 k a) 36 0 k b) 37 0 k e) K_M_ways 0 = upd (M2 K_M_ways 0) k b := fun a b e => by rw [oUp_k (by decide), oUp_upd, oUp_k (by decide)]
        have u3 : ∀ a b e, (oUp (oUp (oUp M2 35 0 k a) 36 0 k b) 37 0 k e) K_M_lengths 0 = upd (M2 K_M_lengths 0) k e := fun a b e => by rw [oUp_upd, oUp_k (by decide), oUp_k (by decide)]
        refine ih (k + 1) _ (by omega) (by omega) ?_ (fun j hj => ?_) (fun j hj hj2 => ?_) (((hF.up (Or.inr (Or.inl rfl))).up (Or.inr (Or.inr (Or.inl rfl)))).up (Or.inr (Or.inr (Or.inr rfl)))) (hm.tr (oM7.k (by rw [oUp_k (by decide), oUp_k (by decide), oUp_k (by decide)])))
        · rw [oUp_k (by decide), oUp_k (by decide), oUp_k (by decide)]
          exact h7
        · rw [u1, u2, u3]
          by_cases z : j = k
          · subst z
            rw [upd_eq, upd_eq, upd_eq]
            have es : ∀ f : Nat → Int32, sSl 1 c f j = f (j + 1) := fun f => (if_pos rfl).trans (if_neg (by omega))
            rw [es, es, es]
            exact ⟨b1, b2, b3⟩
          · rw [upd_ne z, upd_ne z, upd_ne z]
            exact h1 j (by omega)
        · rw [u1, u2, u3, upd_ne (by omega), upd_ne (by omega), upd_ne (by omega)]
          exact h2 j (by omega) hj2
    refine loop (cC N d - 1 - c) c _ (by omega) (Nat.le_refl _) oUp_self (fun j hj => ?_) (fun j hj hj2 => ?_) (af.up (Or.inl rfl)) (fun j hj => ?_)
    · rw [oUp_k (k' := K_M_kinds) (by decide), oUp_k (k' := K_M_ways) (by decide), oUp_k (k' := K_M_lengths) (by decide)]
      have es : ∀ f : Nat → Int32, sSl 1 c f j = f j := fun f => (if_pos rfl).trans (if_pos hj)
      rw [es, es, es]
      exact aa j (by omega)
    · rw [oUp_k (k' := K_M_kinds) (by decide), oUp_k (k' := K_M_ways) (by decide), oUp_k (k' := K_M_lengths) (by decide)]
      exact aa j hj2
    · rw [oUp_j hj]
      exact ao j hj
  · refine g_ic_ne rfl (fun _ => ?_) (fun z => absurd z (by decide))
    refine oRun_ok 2 rfl ?_
    refine g_ic_ne rfl (fun z => absurd rfl z) (fun _ => ?_)
    refine oRun_ok 6 rfl ?_
    refine g_iald c rfl rfl rfl (by omega) ?_
    refine oRun_ok 4 rfl ?_
    refine g_iast c rfl rfl rfl (by omega) ?_
    refine oRun_ok 1 rfl ?_
    refine g_ret rfl rfl ⟨rfl, ?_, fun j hj => ?_, af.up (Or.inr (Or.inr (Or.inl rfl))), fun j hj => ?_⟩
    · rw [oUp_k (by decide)]
      exact a7
    · have hj : j < cC N d := hj
      obtain ⟨b1, b2, b3⟩ := aa j hj
      rw [oUp_k (k' := K_M_kinds) (by decide), oUp_k (k' := K_M_lengths) (by decide), oUp_at]
      refine ⟨b1, ?_, b3⟩
      by_cases z : j = c
      · subst z
        refine (if_pos rfl).trans ?_
        rw [show M1 36 0 j = _ from b2]
        exact ((if_pos rfl).trans (if_pos rfl)).symm
      · refine (if_neg z).trans ?_
        rw [show M1 36 0 j = _ from b2]
        exact ((if_pos rfl).trans (if_neg z)).symm
    · rw [oUp_k (by decide)]
      exact ao j hj
  · have hc3 := hc3 rfl
    refine g_ic_ne rfl (fun _ => ?_) (fun z => absurd z (by decide))
    refine oRun_ok 2 rfl ?_
    refine g_ic_ne rfl (fun _ => ?_) (fun z => absurd z (by decide))
    refine oRun_ok 4 rfl ?_
    refine g_callV rfl rfl rfl rfl rfl mok_Mod_exchange (by decide) (c_Mod_exchange _ 35 c rfl rfl (by omega)) ?_
    rintro r2 M2 ⟨rfl, x1, x2⟩
    refine oRun_ok 4 rfl ?_
    refine g_callV rfl rfl rfl rfl rfl mok_Mod_exchange (by decide) (c_Mod_exchange _ 36 c rfl rfl (by omega)) ?_
    rintro r3 M3 ⟨rfl, y1, y2⟩
    refine oRun_ok 4 rfl ?_
    refine g_callV rfl rfl rfl rfl rfl mok_Mod_exchange (by decide) (c_Mod_exchange _ 37 c rfl rfl (by omega)) ?_
    rintro r4 M4 ⟨rfl, z1, z2⟩
    have eM : M4 K_MOD 0 = M1 K_MOD 0 := ((z2 K_MOD 0 (fun q => absurd q.1 (by decide))).trans (y2 K_MOD 0 (fun q => absurd q.1 (by decide)))).trans (x2 K_MOD 0 (fun q => absurd q.1 (by decide)))
    have ek : M4 K_M_kinds 0 = M2 K_M_kinds 0 := (z2 _ 0 (fun q => absurd q.1 (by decide))).trans (y2 _ 0 (fun q => absurd q.1 (by decide)))
    have ew : M4 K_M_ways 0 = M3 K_M_ways 0 := z2 _ 0 (fun q => absurd q.1 (by decide))
    have ew2 : M2 36 0 = M1 36 0 := x2 _ 0 (fun q => absurd q.1 (by decide))
    have el2 : M3 37 0 = M1 37 0 := (y2 _ 0 (fun q => absurd q.1 (by decide))).trans (x2 _ 0 (fun q => absurd q.1 (by decide)))
    refine g_ret rfl rfl ⟨rfl, ?_, fun j hj => ?_, ((af.tr (x2.mono (fun k i q => Or.inr (Or.inl q.1)))).tr (y2.mono (fun k i q => Or.inr (Or.inr (Or.inl q.1))))).tr (z2.mono (fun k i q => Or.inr (Or.inr (Or.inr q.1)))), fun j hj => ?_⟩
    · rw [eM]
      exact a7
    · have hj : j < cC N d := hj
      have es : ∀ f : Nat → Int32, sSl 3 c f j = if j = c then f (c + 1) else if j = c + 1 then f c else f j := fun f => (if_neg (by decide)).trans (if_pos rfl)
      have ew3 : sSw 3 c (wA N d) j = sSl 3 c (wA N d) j := if_neg (by decide)
      rw [ew3, es, es, es, ek, ew, show M2 K_M_kinds 0 j = _ from x1 j, show M3 K_M_ways 0 j = _ from y1 j, show M4 K_M_lengths 0 j = _ from z1 j, ew2, el2]
      obtain ⟨b1, b2, b3⟩ := aa j hj
      obtain ⟨c1, c2, c3⟩ := aa c hc
      obtain ⟨d1, d2, d3⟩ := aa (c + 1) hc3
      rw [show M1 35 0 (c + 1) = _ from d1, show M1 35 0 c = _ from c1, show M1 35 0 j = _ from b1, show M1 36 0 (c + 1) = _ from d2, show M1 36 0 c = _ from c2, show M1 36 0 j = _ from b2, show M1 37 0 (c + 1) = _ from d3, show M1 37 0 c = _ from c3, show M1 37 0 j = _ from b3]
      exact ⟨rfl, rfl, rfl⟩
    · rw [eM]
      exact ao j hj
/-- the model's three numbers beside the class's -/
def oSr (p p' : Int32 × Int32 × Int32) : Prop := p'.1 = p.1 ∧ p'.2.1 = p.2.1 ∧ p'.2.2 = if p.2.1 = 0 then vNONE else p.2.2
theorem oSr_b1 {v : Nat → Int32} {s : Int32} (hs : ¬ s = 0) {p p' : Int32 × Int32 × Int32} (h : oSr p p') : ∀ n, oSr (sB1 v s n p) (sB1 v s n p')
  | 0 => h
  | n + 1 => by
    have ih := oSr_b1 (v := v) hs h n
    rw [sB1, sB1, ih.1]
    by_cases z : v n < (sB1 v s n p).1
    · rw [if_pos z, if_pos z]
      exact ⟨rfl, rfl, (if_neg hs).symm⟩
    · rw [if_neg z, if_neg z]
      exact ih
theorem oSr_slip (N : Nat → Int32) (d : Nat) (nd ch : Int32) : oSr (sSlip N d nd ch 0) (sSlip N d nd ch vNONE) := by
  unfold sSlip
  exact oSr_b1 (s := nI 3) (by decide) (oSr_b1 (s := nI 2) (by decide) (oSr_b1 (s := nI 1) (by decide) (p := (sGap N d nd ch, 0, 0)) (p' := (sGap N d nd ch, 0, vNONE)) ⟨rfl, rfl, rfl⟩ _) _) _
def s_slip (D : oM) (d w : Int32) : Int32 × oM := if f_Oak_isWithin d 0 (D K_M_now 0 2 - 1) = 0 then (vBAD, D) else if f_Oak_isWithin w 0 2 = 0 then (vBAD, D) else (if w = 0 then (sSlip (D K_M_now 0) d.toNatClampNeg (sNd (D K_M_now 0) d.toNatClampNeg) (sCh (D K_M_now 0) d.toNatClampNeg) vNONE).1 else if w = 1 then (sSlip (D K_M_now 0) d.toNatClampNeg (sNd (D K_M_now 0) d.toNatClampNeg) (sCh (D K_M_now 0) d.toNatClampNeg) vNONE).2.1 else (sSlip (D K_M_now 0) d.toNatClampNeg (sNd (D K_M_now 0) d.toNatClampNeg) (sCh (D K_M_now 0) d.toNatClampNeg) vNONE).2.2, D)
theorem p_slip (M D : oM) (d w : Int32) (hI : oI M D) : oCt 6 k_Oak_slip [.inr (K_OAK, 0), .inl d, .inl w] M (oQC (s_slip D d w) M) := by
  refine oCt.of (ls := [some (.inr (K_OAK, 0)), some (.inl d), some (.inl w)]) mok_Oak_slip rfl rfl ?_
  refine oRun_ok 3 rfl ?_
  refine g_callV rfl rfl rfl rfl rfl mok_Land_hasDeed (by decide) (c_Land_hasDeed _ 0 _) ?_
  rintro r5 M5 ⟨rfl, e⟩; rw [e]
  rw [hI.dd]
  refine g_if_eq rfl (fun h8 => ?_) (fun h8 => ?_)
  · refine oRun_ok 1 rfl ?_
    exact g_iret rfl rfl rfl (oQC.same hI (if_pos h8))
  · refine oRun_ok 3 rfl ?_
    refine g_callS rfl rfl rfl rfl mok_Oak_isWithin (by decide) (c_Oak_isWithin _ _ _ _) ?_
    rintro r14 M14 ⟨rfl, e⟩; rw [e]
    refine g_if_ne rfl (fun h17 => ?_) (fun h17 => ?_)
    · obtain ⟨j, hj, hj4, rfl, ej⟩ := oHasD hI h8
      have fin : s_slip D (nI j) w = (if w = 0 then (sSlip (D K_M_now 0) j (sNd (D K_M_now 0) j) (sCh (D K_M_now 0) j) vNONE).1 else if w = 1 then (sSlip (D K_M_now 0) j (sNd (D K_M_now 0) j) (sCh (D K_M_now 0) j) vNONE).2.1 else (sSlip (D K_M_now 0) j (sNd (D K_M_now 0) j) (sCh (D K_M_now 0) j) vNONE).2.2, D) := (if_neg h8).trans ((if_neg h17).trans (by rw [ej]))
      obtain ⟨o1, o2, o3⟩ := oSr_slip (D K_M_now 0) j (sNd (D K_M_now 0) j) (sCh (D K_M_now 0) j)
      rw [o1, o2, o3] at fin
      refine oRun_ok 3 rfl ?_
      refine g_callV rfl rfl rfl rfl rfl mok_Walk_findBestSlip (by decide) (c_Walk_findBestSlip _ _ 0 j hI.ok hI.rl hj) ?_
      rintro r M' ⟨rfl, f1, f2, f3, f4⟩
      refine oRun_ok 1 rfl ?_
      refine g_if_ne rfl (fun h32 => ?_) (fun h32 => ?_)
      · refine oRun_ok 2 rfl ?_
        refine g_ic_ne rfl (fun h45 => ?_) (fun h45 => ?_)
        · refine oRun_ok 3 rfl ?_
          rw [show M' 9 0 5 = _ from f2]
          refine g_if_ne rfl (fun h63 => ?_) (fun h63 => ?_)
          · refine oRun_ok 3 rfl ?_
            exact g_iret rfl rfl rfl (oQC.look hI (by rw [fin, if_neg h32, if_neg h45, if_neg h63, show M' 9 0 6 = _ from f3]) f4.ws)
          · refine oRun_ok 2 rfl ?_
            exact g_iret rfl rfl rfl (oQC.look hI (by rw [fin, if_neg h32, if_neg h45, if_pos h63]) f4.ws)
        · refine oRun_ok 3 rfl ?_
          exact g_iret rfl rfl rfl (oQC.look hI (by rw [fin, if_neg h32, if_pos h45, show M' 9 0 5 = _ from f2]) f4.ws)
      · refine oRun_ok 3 rfl ?_
        exact g_iret rfl rfl rfl (oQC.look hI (by rw [fin, if_pos h32, show M' 9 0 4 = _ from f1]) f4.ws)
    · refine oRun_ok 1 rfl ?_
      exact g_iret rfl rfl rfl (oQC.same hI ((if_neg h8).trans (if_pos h17)))
theorem gapS_eq {M' : oM} {N : Nat → Int32} {d s c : Nat} {nd ch : Int32} (h : ∀ j, j < sSn s (cC N d) → M' K_M_kinds 0 j = sSl s c (kA N d) j ∧ M' K_M_ways 0 j = sSw s c (wA N d) j ∧ M' K_M_lengths 0 j = sSl s c (lA N d) j) : sGapP (N (20 + 35 * d)) (N (20 + 35 * d + 1)) (sMc M' N d nd ch (sSn s (cC N d))) = sGapS N d nd ch s c := by
  unfold sGapS sCS sMc
  rw [sCor_congr h]
theorem q_slip (C M D : oM) (d w : Int32) (hI : oI C D) (hD : oPs D M) : oCt 6 k_Mod_slip [.inr (K_MOD, 0), .inl d, .inl w] M (oQM (s_slip D d w) M) := by
  have hN := hD.now
  refine oCt.of (ls := [some (.inr (K_MOD, 0)), some (.inl d), some (.inl w), none, none, none, none, none, none, none, none, none]) mok_Mod_slip rfl rfl ?_
  refine oRun_ok 2 rfl ?_
  refine g_callV rfl rfl rfl rfl rfl mok_Mod_isDeed (by decide) (c_Mod_isDeed _ _) ?_
  rintro r2 M2 ⟨rfl, e⟩; rw [e]
  rw [hN]
  refine g_if_eq rfl (fun h5 => ?_) (fun h5 => ?_)
  · refine oRun_ok 1 rfl ?_
    exact g_iret rfl rfl rfl (oQM.same hD (if_pos h5))
  · refine oRun_ok 3 rfl ?_
    refine g_callS rfl rfl rfl rfl mok_Mod_in (by decide) (c_Mod_in _ _ _ _) ?_
    rintro r11 M11 ⟨rfl, e⟩; rw [e]
    refine g_if_ne rfl (fun h14 => ?_) (fun h14 => ?_)
    · obtain ⟨j, hj, hj4, rfl, ej⟩ := oHasD hI h5
      obtain ⟨hC, c10⟩ := oNC (hI.dok hj)
      have fin : s_slip D (nI j) w = (if w = 0 then (sSlip (D K_M_now 0) j (sNd (D K_M_now 0) j) (sCh (D K_M_now 0) j) vNONE).1 else if w = 1 then (sSlip (D K_M_now 0) j (sNd (D K_M_now 0) j) (sCh (D K_M_now 0) j) vNONE).2.1 else (sSlip (D K_M_now 0) j (sNd (D K_M_now 0) j) (sCh (D K_M_now 0) j) vNONE).2.2, D) := (if_neg h5).trans ((if_neg h14).trans (by rw [ej]))
      refine oRun_ok 2 rfl ?_
      refine g_callV rfl rfl rfl rfl rfl mok_Mod_needleOf (by decide) (c_Mod_needleOf _ _ j hN hI.ok hj) ?_
      rintro r1 M1 ⟨rfl, f1⟩
      have m1 := oMs_ml f1
      have n1 : M1 K_M_now 0 = D K_M_now 0 := (m1.at (by decide) 0).trans hN
      refine oRun_ok 3 rfl ?_
      refine g_callV rfl rfl rfl rfl rfl mok_Mod_chainOf (by decide) (c_Mod_chainOf _ _ j n1 hI.ok hj) ?_
      rintro r2 M2 ⟨rfl, f2⟩
      have m2 := m1.tr (oMs_ml f2)
      have n2 : M2 K_M_now 0 = D K_M_now 0 := (m2.at (by decide) 0).trans hN
      refine oRun_ok 3 rfl ?_
      refine g_callV rfl rfl rfl rfl rfl mok_Mod_findCorners (by decide) (c_Mod_findCorners _ _ j n2 hI.ok hj) ?_
      rintro r3 M3 ⟨rfl, g1, g2, g3, g4, g5⟩
      refine oRun_ok 7 rfl ?_
      have m3 := m2.tr (oMs_mf g5 g2)
      have hok := hI.ok
      generalize hNN : D K_M_now 0 = N at *
      generalize hnd : sNd N j = nd at *
      generalize hch : sCh N j = ch at *
      have inner : ∀ (s m : Nat) (st : Int32 × Int32 × Int32), 1 ≤ s → s ≤ 3 → m ≤ cC N j → (s = 3 → m + 1 ≤ cC N j ∨ m = 0) → ∀ (q k : Nat) (M4 : oM) (x11 : Option oV), k + q = m → oMs M M4 → (∀ (M5 : oM) (x11 : Option oV), oMs M M5 → oG k_Mod_slip 6 159 [some (.inr (K_MOD, 0)), some (.inl (nI j)), some (.inl w), some (.inl nd), some (.inl ch), some (.inl (sB1 (sGapS N j nd ch s) (nI s) m st).1), some (.inl (sB1 (sGapS N j nd ch s) (nI s) m st).2.1), some (.inl (sB1 (sGapS N j nd ch s) (nI s) m st).2.2), some (.inl (nI s)), some (.inl (nI m)), some (.inl (nI m)), x11] [] M5 (oQM (s_slip D (nI j) w) M)) → oG k_Mod_slip 6 79 [some (.inr (K_MOD, 0)), some (.inl (nI j)), some (.inl w), some (.inl nd), some (.inl ch), some (.inl (sB1 (sGapS N j nd ch s) (nI s) k st).1), some (.inl (sB1 (sGapS N j nd ch s) (nI s) k st).2.1), some (.inl (sB1 (sGapS N j nd ch s) (nI s) k st).2.2), some (.inl (nI s)), some (.inl (nI m)), some (.inl (nI k)), x11] [] M4 (oQM (s_slip D (nI j) w) M) := by
        intro s m st hs1 hs3 hm h3 q
        induction q with
        | zero =>
          intro k M4 x11 hk hF go
          obtain rfl : k = m := by omega
          refine oRun_ok 2 rfl ?_
          refine g_ic_ge rfl (fun _ => ?_) (fun z => absurd (Int32.le_refl _) z)
          exact go M4 _ hF
        | succ q ih =>
          intro k M4 x11 hk hF go
          refine oRun_ok 2 rfl ?_
          refine g_ic_ge rfl (fun z => ?_) (fun _ => ?_)
          · rw [nIle (by omega) (by omega)] at z
            omega
          refine oRun_ok 4 rfl ?_
          refine g_callV rfl rfl rfl rfl rfl mok_Mod_takeSlipped (by decide) (c_Mod_takeSlipped _ N j s k ((hF.at (by decide) 0).trans hN) hok hj ⟨hs1, hs3⟩ (by omega) (fun z => by have := h3 z; omega)) ?_
          rintro r5 M5 ⟨rfl, b1, b2, b3, b4⟩
          have m5 := hF.tr (oMs_mt b3 b4)
          refine oRun_ok 4 rfl ?_
          refine g_callV rfl rfl rfl rfl rfl mok_Mod_walks (by decide) (c_Mod_walks _ N j (sSn s (cC N j)) nd ch ((m5.at (by decide) 0).trans hN) hok hj b1 (by unfold sSn; split <;> omega)) ?_
          rintro r6 M6 ⟨rfl, -, w2⟩
          have m6 := m5.tr (oMs_mw w2)
          rw [gapS_eq b2]
          have ih' := ih (k + 1) M6 (some (.inl (sGapS N j nd ch s k))) (by omega) m6 go
          rw [sB1] at ih'
          refine oRun_ok 3 rfl ?_
          by_cases z : sGapS N j nd ch s k < (sB1 (sGapS N j nd ch s) (nI s) k st).1
          · rw [if_pos z] at ih'
            have z' : ¬ (sB1 (sGapS N j nd ch s) (nI s) k st).1 ≤ sGapS N j nd ch s k := Int32.not_le.mpr z
            refine g_ic_ge rfl (fun y => absurd y z') (fun _ => ?_)
            refine oRun_ok 5 rfl ?_
            refine g_ic_ge rfl (fun y => absurd y z') (fun _ => ?_)
            refine oRun_ok 5 rfl ?_
            refine g_ic_ge rfl (fun y => absurd y z') (fun _ => ?_)
            refine oRun_ok 5 rfl ?_
            rw [nI_1]
            exact ih'
          · rw [if_neg z] at ih'
            have z' : (sB1 (sGapS N j nd ch s) (nI s) k st).1 ≤ sGapS N j nd ch s k := Int32.not_lt.mp z
            refine g_ic_ge rfl (fun _ => ?_) (fun y => absurd z' y)
            refine oRun_ok 4 rfl ?_
            refine g_ic_ge rfl (fun _ => ?_) (fun y => absurd z' y)
            refine oRun_ok 4 rfl ?_
            refine g_ic_ge rfl (fun _ => ?_) (fun y => absurd z' y)
            refine oRun_ok 4 rfl ?_
            rw [nI_1]
            exact ih'
      -- from the head of the outer loop to the inner one
      have head : ∀ (s m : Nat) (st : Int32 × Int32 × Int32) (M4 : oM) (x9 x10 x11 : Option oV), 1 ≤ s → s ≤ 3 → m = (if s = 3 then cC N j - 1 else cC N j) → oMs M M4 → (∀ (M5 : oM) (x9 x10 x11 : Option oV), oMs M M5 → oG k_Mod_slip 6 50 [some (.inr (K_MOD, 0)), some (.inl (nI j)), some (.inl w), some (.inl nd), some (.inl ch), some (.inl (sB1 (sGapS N j nd ch s) (nI s) m st).1), some (.inl (sB1 (sGapS N j nd ch s) (nI s) m st).2.1), some (.inl (sB1 (sGapS N j nd ch s) (nI s) m st).2.2), some (.inl (nI (s + 1))), x9, x10, x11] [] M5 (oQM (s_slip D (nI j) w) M)) → oG k_Mod_slip 6 50 [some (.inr (K_MOD, 0)), some (.inl (nI j)), some (.inl w), some (.inl nd), some (.inl ch), some (.inl st.1), some (.inl st.2.1), some (.inl st.2.2), some (.inl (nI s)), x9, x10, x11] [] M4 (oQM (s_slip D (nI j) w) M) := by
        intro s m st M4 x9 x10 x11 hs1 hs3 hm hF go
        refine oRun_ok 2 rfl ?_
        refine g_ic_ge rfl (fun z => ?_) (fun _ => ?_)
        · have z : nI 4 ≤ nI s := z
          rw [nIle (by omega) (by omega)] at z
          omega
        refine oRun_ok 3 rfl ?_
        refine g_callV rfl rfl rfl rfl rfl mok_Mod_of (by decide) (c_Mod_of _ j 4 hj4 (by decide)) ?_
        rintro r4 N4 ⟨rfl, e⟩; rw [e, show M4 K_M_now 0 = N from (hF.at (by decide) 0).trans hN, hC]
        refine oRun_ok 2 rfl ?_
        have at73 : ∀ v : Int32, (nI (cC N j) - v = nI m ∨ (nI (cC N j) - v < 0 ∧ m = 0)) → oG k_Mod_slip 6 73 [some (.inr (K_MOD, 0)), some (.inl (nI j)), some (.inl w), some (.inl nd), some (.inl ch), some (.inl st.1), some (.inl st.2.1), some (.inl st.2.2), some (.inl (nI s)), x9, x10, x11] [.inl v, .inl (nI (cC N j))] M4 (oQM (s_slip D (nI j) w) M) := by
          intro v hv
          refine oRun_ok 4 rfl ?_
          rcases hv with hv | ⟨hv, m0⟩
          · rw [hv]
            refine inner s m st hs1 hs3 (by rw [hm]; split <;> omega) (fun z => by rw [hm, if_pos z]; omega) m 0 M4 _ (by omega) hF (fun M5 x11 h5 => ?_)
            refine oRun_ok 2 rfl ?_
            rw [nI_1]
            exact go M5 _ _ _ h5
          · subst m0
            refine oRun_ok 2 rfl ?_
            refine g_ic_ge rfl (fun _ => ?_) (fun z => absurd (Int32.le_of_lt hv) z)
            refine oRun_ok 2 rfl ?_
            rw [nI_1]
            exact go M4 _ _ _ hF
        refine g_ic_ne rfl (fun z => ?_) (fun z => ?_)
        · have s3 : ¬ s = 3 := fun y => z (by rw [y]; rfl)
          rw [if_neg s3] at hm
          refine oRun_ok 1 rfl ?_
          exact at73 0 (Or.inl (by rw [Int32.sub_zero, hm]))
        · have z : nI s = nI 3 := z
          have s3 : s = 3 := (nIe (by omega) (by omega)).mp z
          rw [if_pos s3] at hm
          refine oRun_ok 2 rfl ?_
          refine at73 1 ?_
          by_cases y : cC N j = 0
          · rw [y]
            exact Or.inr ⟨by decide, by omega⟩
          · left
            rw [hm]
            exact nIsub (b := 1) (by omega)
      refine head 1 (cC N j) (sGap N j nd ch, 0, vNONE) M3 _ _ _ (by decide) (by decide) rfl m3 (fun M5 x9 x10 x11 h5 => ?_)
      refine head 2 (cC N j) _ M5 _ _ _ (by decide) (by decide) rfl h5 (fun M6 x9 x10 x11 h6 => ?_)
      refine head 3 (cC N j - 1) _ M6 _ _ _ (by decide) (by decide) rfl h6 (fun M7 x9 x10 x11 h7 => ?_)
      refine oRun_ok 2 rfl ?_
      refine g_ic_ge rfl (fun _ => ?_) (fun z => absurd (Int32.le_refl _) z)
      have es : sB1 (sGapS N j nd ch 3) (nI 3) (cC N j - 1) (sB1 (sGapS N j nd ch 2) (nI 2) (cC N j) (sB1 (sGapS N j nd ch 1) (nI 1) (cC N j) (sGap N j nd ch, 0, vNONE))) = sSlip N j nd ch vNONE := rfl
      rw [es]
      refine oRun_ok 1 rfl ?_
      refine g_if_ne rfl (fun z => ?_) (fun z => ?_)
      · refine oRun_ok 2 rfl ?_
        refine g_ic_ne rfl (fun z2 => ?_) (fun z2 => ?_)
        · refine oRun_ok 1 rfl ?_
          exact g_iret rfl rfl rfl (oQM.look hD (by rw [fin, if_neg z, if_neg z2]) h7)
        · refine oRun_ok 2 rfl ?_
          exact g_iret rfl rfl rfl (oQM.look hD (by rw [fin, if_neg z, if_pos z2]) h7)
      · refine oRun_ok 2 rfl ?_
        exact g_iret rfl rfl rfl (oQM.look hD (by rw [fin, if_pos z]) h7)
    · refine oRun_ok 1 rfl ?_
      exact g_iret rfl rfl rfl (oQM.same hD ((if_neg h5).trans (if_pos h14)))

