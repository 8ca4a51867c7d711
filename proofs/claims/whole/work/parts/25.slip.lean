/-! ===== Walk: the best slip; the area ===== -/
def sB1 (v : Nat → Int32) (s : Int32) : Nat → Int32 × Int32 × Int32 → Int32 × Int32 × Int32
  | 0, st => st
  | n + 1, st => if v n < (sB1 v s n st).1 then (v n, s, nI n) else sB1 v s n st
theorem sB1_0 {v : Nat → Int32} {s : Int32} {st : Int32 × Int32 × Int32} : sB1 v s 0 st = st := rfl
def sSlip (N : Nat → Int32) (d : Nat) (nd ch c0 : Int32) : Int32 × Int32 × Int32 := sB1 (sGapS N d nd ch 3) (nI 3) (cC N d - 1) (sB1 (sGapS N d nd ch 2) (nI 2) (cC N d) (sB1 (sGapS N d nd ch 1) (nI 1) (cC N d) (sGap N d nd ch, 0, c0)))
def Q_slip (M : oM) (w : Nat) (p : Int32 × Int32 × Int32) : Option Int32 → oM → Prop := fun r M' => r = none ∧ M' K_WALK w 4 = p.1 ∧ M' K_WALK w 5 = p.2.1 ∧ M' K_WALK w 6 = p.2.2 ∧ oFr (oWs w) M M'
/-- the walker between two slips -/
def oBs (M M1 : oM) (w : Nat) (nd ch : Int32) (p : Int32 × Int32 × Int32) : Prop := M1 K_WALK w 4 = p.1 ∧ M1 K_WALK w 5 = p.2.1 ∧ M1 K_WALK w 6 = p.2.2 ∧ M1 K_WALK w 10 = nd ∧ M1 K_WALK w 11 = ch ∧ oFr (oWs w) M M1
theorem c_Walk_findBestSlip (M : oM) (N : Nat → Int32) (w d : Nat) (hN : oNOk N) (hL : oRL M N w) (hd : d < cD N) : oCt 4 k_Walk_findBestSlip [.inr (K_WALK, w), .inl (nI d)] M (Q_slip M w (sSlip N d (sNd N d) (sCh N d) 0)) := by
  obtain ⟨-, d4⟩ := oND hN
  have hDo := hN.2.2.2.2.1 d hd
  obtain ⟨hC, hC10⟩ := oNC hDo
  obtain ⟨nd, hnd8, hnd⟩ := sNd_lt N d
  refine oCt.of (ls := [some (.inr (K_WALK, w)), some (.inl (nI d)), none, none, none, none, none]) mok_Walk_findBestSlip rfl rfl ?_
  have inner : ∀ (s mn : Nat) (mI : Int32) (st : Int32 × Int32 × Int32), 1 ≤ s ∧ s ≤ 3 → mn ≤ cC N d → (s = 3 → mn + 1 ≤ cC N d ∨ mn = 0) → (∀ a : Nat, a ≤ 10 → (mI ≤ nI a ↔ mn ≤ a)) → (∀ (M2 : oM) (x6 : Option oV), oBs M M2 w (sNd N d) (sCh N d) (sB1 (sGapS N d (sNd N d) (sCh N d) s) (nI s) mn st) → oG k_Walk_findBestSlip 4 124 [some (.inr (K_WALK, w)), some (.inl (nI d)), some (.inr (K_DEED, 4 * w + d)), some (.inl (nI s)), some (.inl mI), some (.inl (nI mn)), x6] [] M2 (Q_slip M w (sSlip N d (sNd N d) (sCh N d) 0))) →
      ∀ (q c : Nat) (M1 : oM) (x6 : Option oV), c + q = mn → oBs M M1 w (sNd N d) (sCh N d) (sB1 (sGapS N d (sNd N d) (sCh N d) s) (nI s) c st) → oG k_Walk_findBestSlip 4 75 [some (.inr (K_WALK, w)), some (.inl (nI d)), some (.inr (K_DEED, 4 * w + d)), some (.inl (nI s)), some (.inl mI), some (.inl (nI c)), x6] [] M1 (Q_slip M w (sSlip N d (sNd N d) (sCh N d) 0)) := by
    intro s mn mI st hs hmn hm3 hmI kont q
    induction q with
    | zero =>
      intro c M1 x6 hc hb
      have hc : c = mn := by omega
      subst hc
      refine oRun_ok 2 rfl ?_
      refine g_ic_ge rfl (fun h79 => kont M1 x6 hb) (fun h79 => absurd ((hmI c (by omega)).mpr (Nat.le_refl c)) h79)
    | succ q ih =>
      intro c M1 x6 hc hb
      refine oRun_ok 2 rfl ?_
      refine g_ic_ge rfl (fun h79 => ?_) (fun h79 => ?_)
      · have := (hmI c (by omega)).mp h79
        omega
      obtain ⟨b4, b5, b6, b10, b11, hf⟩ := hb
      have L1 := oRL_kp (hf.kp (oWs_kp w)) hL
      refine oRun_ok 4 rfl ?_
      refine g_callV rfl rfl rfl rfl rfl mok_Walk_gapWithSlip (by decide) (c_Walk_gapWithSlip M1 N w d nd s c (sCh N d) hN L1 hd hnd8 (b10.trans hnd) b11 hs (by omega) (fun h3 => by rcases hm3 h3 with h | h <;> omega)) ?_
      rintro r87 M87 ⟨rfl, k87, n87, c87, f87⟩
      rw [← hnd]
      rw [← hnd] at n87
      have F87 := hf.tr (oKi_ws f87)
      refine oRun_ok 4 rfl ?_
      rw [show M87 9 w 4 = (sB1 (sGapS N d (sNd N d) (sCh N d) s) (nI s) c st).1 from (k87 4 (by decide)).trans b4]
      refine g_ic_ge rfl (fun h98 => ?_) (fun h98 => ?_)
      · refine oRun_ok 2 rfl ?_
        rw [nI_1]
        refine ih (c + 1) M87 _ (by omega) ?_
        rw [sB1, if_neg (fun q => absurd (Int32.lt_of_lt_of_le q h98) Int32.lt_irrefl)]
        exact ⟨(k87 4 (by decide)).trans b4, (k87 5 (by decide)).trans b5, (k87 6 (by decide)).trans b6, n87, c87, F87⟩
      · refine oRun_ok 11 rfl ?_
        rw [nI_1]
        refine ih (c + 1) _ _ (by omega) ?_
        rw [sB1, if_pos (Int32.not_le.mp h98)]
        refine ⟨?_, ?_, ?_, ?_, ?_, ((F87.up (Or.inr ⟨rfl, Or.inl rfl⟩)).up (Or.inr ⟨rfl, Or.inl rfl⟩)).up (Or.inr ⟨rfl, Or.inl rfl⟩)⟩
        · rw [oUp_j (by decide), oUp_j (by decide), oUp_self]
        · rw [oUp_j (by decide), oUp_self]
        · rw [oUp_self]
        · rw [oUp_j (by decide), oUp_j (by decide), oUp_j (by decide)]; exact n87
        · rw [oUp_j (by decide), oUp_j (by decide), oUp_j (by decide)]; exact c87
  have lim : ∀ mn a : Nat, mn ≤ 10 → a ≤ 10 → (nI mn ≤ nI a ↔ mn ≤ a) := fun mn a h1 h2 => nIle (by omega) (by omega)
  have lim3 : ∀ a : Nat, a ≤ 10 → (nI (cC N d) - 1 ≤ nI a ↔ cC N d - 1 ≤ a) := by
    intro a ha
    rw [iLe, nIt (by omega)]
    have e1 : (1 : Int32).toInt = 1 := rfl
    have : (nI (cC N d) - 1).toInt = (cC N d : Int) - 1 := by rw [iSub (by rw [nIt (by omega), e1]; omega), nIt (by omega), e1]
    rw [this]
    omega
  have cnt : ∀ {M1 : oM}, oFr (oWs w) M M1 → M1 5 (4 * w + d) 4 = nI (cC N d) := fun hf => ((oRL_kp (hf.kp (oWs_kp w)) hL).2.2.2.2.2.1 d hd).1 4 (by decide) |>.trans hC
  refine oRun_ok 4 rfl ?_
  refine g_aald d rfl rfl rfl (by omega) rfl ?_
  refine oRun_ok 7 rfl ?_
  refine g_callV rfl rfl rfl rfl rfl mok_Land_needleOf (by decide) (c_Land_needleOf M N w d hN hL hd) ?_
  rintro r18 M18 ⟨rfl, f18⟩
  have L18 := oRL_kp ((oKs_ws (w := w) f18).kp (oWs_kp w)) hL
  refine oRun_ok 3 rfl ?_
  refine g_callV rfl rfl rfl rfl rfl mok_Land_chainOf (by decide) (c_Land_chainOf M18 N w d hN L18 hd) ?_
  rintro r26 M26 ⟨rfl, f26⟩
  have F26 : oFr (oWs w) M M26 := (oKs_ws f18).tr (oKs_ws f26)
  have L26 := oRL_kp (F26.kp (oWs_kp w)) hL
  rw [hnd]
  refine g_callV rfl rfl rfl rfl rfl mok_Walk_gapBy (by decide) (c_Walk_gapBy M26 N w d nd (sCh N d) hN L26 hd hnd8) ?_
  rintro r29 M29 ⟨rfl, k29, n29, c29, f29⟩
  rw [← hnd]
  rw [← hnd] at n29
  have F29 := F26.tr (oKi_ws f29)
  refine oRun_ok 9 rfl ?_
  generalize hM0 : oUp (oUp (oUp M29 K_WALK w 4 (sGap N d (sNd N d) (sCh N d))) K_WALK w 5 0) K_WALK w 6 0 = M0
  have B0 : oBs M M0 w (sNd N d) (sCh N d) (sGap N d (sNd N d) (sCh N d), 0, 0) := by
    rw [← hM0]
    refine ⟨?_, ?_, ?_, ?_, ?_, ((F29.up (Or.inr ⟨rfl, Or.inl rfl⟩)).up (Or.inr ⟨rfl, Or.inl rfl⟩)).up (Or.inr ⟨rfl, Or.inl rfl⟩)⟩
    · rw [oUp_j (by decide), oUp_j (by decide), oUp_self]
    · rw [oUp_j (by decide), oUp_self]
    · rw [oUp_self]
    · rw [oUp_j (by decide), oUp_j (by decide), oUp_j (by decide)]; exact n29
    · rw [oUp_j (by decide), oUp_j (by decide), oUp_j (by decide)]; exact c29
  clear hM0
  -- slip 1
  refine oRun_ok 2 rfl ?_
  refine g_ic_gt rfl (fun h => absurd h (by decide)) (fun _ => ?_)
  refine oRun_ok 2 rfl ?_
  refine g_ic_ne rfl (fun _ => ?_) (fun h => absurd h (by decide))
  refine oRun_ok 5 rfl ?_
  rw [cnt B0.2.2.2.2.2]
  refine inner 1 (cC N d) (nI (cC N d)) (sGap N d (sNd N d) (sCh N d), 0, 0) (by decide) (Nat.le_refl _) (fun h => absurd h (by decide)) (fun a ha => lim _ a (by omega) ha) (fun M1 x6 B1 => ?_) (cC N d) 0 M0 _ (by omega) (by rw [sB1_0]; exact B0)
  refine oRun_ok 2 rfl ?_
  rw [nI_1]
  -- slip 2
  refine oRun_ok 2 rfl ?_
  refine g_ic_gt rfl (fun h => absurd h (by decide)) (fun _ => ?_)
  refine oRun_ok 2 rfl ?_
  refine g_ic_ne rfl (fun _ => ?_) (fun h => absurd h (by decide))
  refine oRun_ok 5 rfl ?_
  rw [cnt B1.2.2.2.2.2]
  refine inner 2 (cC N d) (nI (cC N d)) (sB1 (sGapS N d (sNd N d) (sCh N d) 1) (nI 1) (cC N d) (sGap N d (sNd N d) (sCh N d), 0, 0)) (by decide) (Nat.le_refl _) (fun h => absurd h (by decide)) (fun a ha => lim _ a (by omega) ha) (fun M2 x6 B2 => ?_) (cC N d) 0 M1 _ (by omega) (by rw [sB1_0]; exact B1)
  refine oRun_ok 2 rfl ?_
  rw [nI_1]
  -- slip 3
  refine oRun_ok 2 rfl ?_
  refine g_ic_gt rfl (fun h => absurd h (by decide)) (fun _ => ?_)
  refine oRun_ok 2 rfl ?_
  refine g_ic_ne rfl (fun h => absurd (by decide) h) (fun _ => ?_)
  refine oRun_ok 8 rfl ?_
  rw [cnt B2.2.2.2.2.2]
  refine inner 3 (cC N d - 1) (nI (cC N d) - 1) (sB1 (sGapS N d (sNd N d) (sCh N d) 2) (nI 2) (cC N d) (sB1 (sGapS N d (sNd N d) (sCh N d) 1) (nI 1) (cC N d) (sGap N d (sNd N d) (sCh N d), 0, 0))) (by decide) (by omega) (fun _ => by omega) lim3 (fun M3 x6 B3 => ?_) (cC N d - 1) 0 M2 _ (by omega) (by rw [sB1_0]; exact B2)
  refine oRun_ok 2 rfl ?_
  rw [nI_1]
  refine oRun_ok 2 rfl ?_
  refine g_ic_gt rfl (fun _ => ?_) (fun h => absurd (by decide) h)
  exact g_ret rfl rfl ⟨rfl, B3.1, B3.2.1, B3.2.2.1, B3.2.2.2.2.2⟩
