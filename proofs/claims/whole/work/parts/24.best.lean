/-! ===== Walk: what is best ===== -/
def sMin (v num : Nat → Int32) : Nat → Int32 × Int32
  | 0 => (1000000, 0)
  | n + 1 => if v n < (sMin v num n).1 then (v n, num n) else sMin v num n
theorem c_Walk_takeIfBetter (M : oM) (w : Nat) (num gap : Int32) : oCt 0 k_Walk_takeIfBetter [.inr (K_WALK, w), .inl num, .inl gap] M (fun r M' => r = none ∧ M' K_WALK w 4 = (if gap < M K_WALK w 4 then gap else M K_WALK w 4) ∧ M' K_WALK w 7 = (if gap < M K_WALK w 4 then num else M K_WALK w 7) ∧ oFr (oKi K_WALK w) M M') := by
  refine oCt.of (ls := [some (.inr (K_WALK, w)), some (.inl num), some (.inl gap)]) mok_Walk_takeIfBetter rfl rfl ?_
  refine oRun_ok 3 rfl ?_
  refine g_ic_ge rfl (fun h5 => ?_) (fun h5 => ?_)
  · have hn : ¬ gap < M K_WALK w 4 := fun q => absurd (Int32.lt_of_lt_of_le q h5) Int32.lt_irrefl
    exact g_ret rfl rfl ⟨rfl, by rw [if_neg hn], by rw [if_neg hn], oFr.rf⟩
  · have hp : gap < M K_WALK w 4 := Int32.not_le.mp h5
    refine oRun_ok 6 rfl ?_
    refine g_ret rfl rfl ⟨rfl, ?_, ?_, (oFr.rf.up ⟨rfl, rfl⟩).up ⟨rfl, rfl⟩⟩
    · rw [if_pos hp, oUp_j (by decide), oUp_self]
    · rw [if_pos hp, oUp_self]
def Q_best (M : oM) (w : Nat) (p : Int32 × Int32) : Option Int32 → oM → Prop := fun r M' => r = none ∧ M' K_WALK w 4 = p.1 ∧ M' K_WALK w 7 = p.2 ∧ oFr (oWs w) M M'
theorem sMin_step {v num : Nat → Int32} {n : Nat} {b o b' o' : Int32} (hv : inR (v n) 0 100000) (h4 : b = (sMin v num n).1) (h7 : 0 < n → o = (sMin v num n).2) (hb' : b' = if v n < b then v n else b) (ho' : o' = if v n < b then num n else o) : b' = (sMin v num (n + 1)).1 ∧ o' = (sMin v num (n + 1)).2 := by
  rw [sMin]
  by_cases h : v n < b
  · rw [if_pos h] at hb' ho'
    rw [h4] at h
    rw [if_pos h]
    exact ⟨hb', ho'⟩
  · rw [if_neg h] at hb' ho'
    have hn : 0 < n := by
      rcases Nat.eq_zero_or_pos n with h0 | h0
      · subst h0
        exact absurd (by rw [h4, iLt]; show (v 0).toInt < 1000000; have := hv.2; omega) h
      · exact h0
    rw [h4] at h
    rw [if_neg h, hb', ho']
    exact ⟨h4, h7 hn⟩
theorem c_Walk_findBestNeedle (M : oM) (N : Nat → Int32) (w d : Nat) (hN : oNOk N) (hL : oRL M N w) (hd : d < cD N) : oCt 4 k_Walk_findBestNeedle [.inr (K_WALK, w), .inl (nI d)] M (Q_best M w (sMin (fun n => sGap N d (nI n) (sCh N d)) nI 8)) := by
  have hcr := sCh_rng hN hd
  refine oCt.of (ls := [some (.inr (K_WALK, w)), some (.inl (nI d)), none, none]) mok_Walk_findBestNeedle rfl rfl ?_
  refine oRun_ok 3 rfl ?_
  refine g_callV rfl rfl rfl rfl rfl mok_Land_chainOf (by decide) (c_Land_chainOf M N w d hN hL hd) ?_
  rintro r5 M5 ⟨rfl, f5⟩
  have loop : ∀ (q n : Nat) (M1 : oM), n + q = 8 → M1 K_WALK w 4 = (sMin (fun n => sGap N d (nI n) (sCh N d)) nI n).1 → (0 < n → M1 K_WALK w 7 = (sMin (fun n => sGap N d (nI n) (sCh N d)) nI n).2) → oFr (oWs w) M M1 → oG k_Walk_findBestNeedle 4 17 [some (.inr (K_WALK, w)), some (.inl (nI d)), some (.inl (sCh N d)), some (.inl (nI n))] [] M1 (Q_best M w (sMin (fun n => sGap N d (nI n) (sCh N d)) nI 8)) := by
    intro q
    induction q with
    | zero =>
      intro n M1 hn h4 h7 hf
      have hn : n = 8 := by omega
      subst hn
      refine oRun_ok 2 rfl ?_
      refine g_ic_ge rfl (fun h20 => ?_) (fun h20 => absurd (by decide) h20)
      exact g_ret rfl rfl ⟨rfl, h4, h7 (by decide), hf⟩
    | succ q ih =>
      intro n M1 hn h4 h7 hf
      refine oRun_ok 2 rfl ?_
      refine g_ic_ge rfl (fun h20 => ?_) (fun h20 => ?_)
      · have := (nIle (a := 8) (b := n) (by omega) (by omega)).mp h20
        omega
      have L1 := oRL_kp (hf.kp (oWs_kp w)) hL
      refine oRun_ok 6 rfl ?_
      refine g_callV rfl rfl rfl rfl rfl mok_Walk_gapBy (by decide) (c_Walk_gapBy M1 N w d n (sCh N d) hN L1 hd (by omega)) ?_
      rintro r29 M29 ⟨rfl, k29, -, -, f29⟩
      refine g_callV rfl rfl rfl rfl rfl mok_Walk_takeIfBetter (by decide) (c_Walk_takeIfBetter M29 w _ _) ?_
      rintro r32 M32 ⟨rfl, a, b, f32⟩
      refine oRun_ok 2 rfl ?_
      rw [nI_1]
      obtain ⟨x, y⟩ := sMin_step (v := fun n => sGap N d (nI n) (sCh N d)) (num := nI) (n := n) (by have := sGap_rng (nd := nI n) hN hd hcr; exact ⟨this.1, by have := this.2; omega⟩) ((k29 4 (by decide)).trans h4) (fun h => (k29 7 (by decide)).trans (h7 h)) a b
      exact ih (n + 1) M32 (by omega) x (fun _ => y) ((hf.tr (oKi_ws f29)).tr (oKi_ws f32))
  refine oRun_ok 6 rfl ?_
  exact loop 8 0 _ rfl (by rw [oUp_self]; rfl) (fun h => by omega) ((oKs_ws f5).up (Or.inr ⟨rfl, Or.inl rfl⟩))
theorem c9 (n : Nat) (h : n ≤ 19) : (nI n - 9).toInt = (n : Int) - 9 := by
  have e : (9 : Int32).toInt = 9 := rfl
  rw [iSub (by rw [nIt (by omega), e]; omega), nIt (by omega), e]
theorem c9_s (n : Nat) : nI n - 9 + 1 = nI (n + 1) - 9 := by
  rw [← nI_1, Int32.sub_eq_add_neg, Int32.sub_eq_add_neg, Int32.add_assoc, Int32.add_assoc, Int32.add_comm (-9) 1]
theorem c_Walk_findBestChain (M : oM) (N : Nat → Int32) (w d : Nat) (hN : oNOk N) (hL : oRL M N w) (hd : d < cD N) : oCt 4 k_Walk_findBestChain [.inr (K_WALK, w), .inl (nI d)] M (Q_best M w (sMin (fun n => sGap N d (sNd N d) (nI n - 9)) (fun n => nI n - 9) 19)) := by
  obtain ⟨nd, hnd8, hnd⟩ := sNd_lt N d
  refine oCt.of (ls := [some (.inr (K_WALK, w)), some (.inl (nI d)), none, none]) mok_Walk_findBestChain rfl rfl ?_
  refine oRun_ok 3 rfl ?_
  refine g_callV rfl rfl rfl rfl rfl mok_Land_needleOf (by decide) (c_Land_needleOf M N w d hN hL hd) ?_
  rintro r5 M5 ⟨rfl, f5⟩
  have loop : ∀ (q n : Nat) (M1 : oM), n + q = 19 → M1 K_WALK w 4 = (sMin (fun n => sGap N d (sNd N d) (nI n - 9)) (fun n => nI n - 9) n).1 → (0 < n → M1 K_WALK w 7 = (sMin (fun n => sGap N d (sNd N d) (nI n - 9)) (fun n => nI n - 9) n).2) → oFr (oWs w) M M1 → oG k_Walk_findBestChain 4 18 [some (.inr (K_WALK, w)), some (.inl (nI d)), some (.inl (sNd N d)), some (.inl (nI n - 9))] [] M1 (Q_best M w (sMin (fun n => sGap N d (sNd N d) (nI n - 9)) (fun n => nI n - 9) 19)) := by
    intro q
    induction q with
    | zero =>
      intro n M1 hn h4 h7 hf
      have hn : n = 19 := by omega
      subst hn
      refine oRun_ok 2 rfl ?_
      refine g_ic_gt rfl (fun h21 => ?_) (fun h21 => absurd (by decide) h21)
      exact g_ret rfl rfl ⟨rfl, h4, h7 (by decide), hf⟩
    | succ q ih =>
      intro n M1 hn h4 h7 hf
      have hc9 := c9 n (by omega)
      refine oRun_ok 2 rfl ?_
      refine g_ic_gt rfl (fun h21 => ?_) (fun h21 => ?_)
      · have := iLt.mp h21
        rw [hc9, show (9 : Int32).toInt = 9 from rfl] at this
        omega
      have L1 := oRL_kp (hf.kp (oWs_kp w)) hL
      refine oRun_ok 6 rfl ?_
      rw [hnd]
      refine g_callV rfl rfl rfl rfl rfl mok_Walk_gapBy (by decide) (c_Walk_gapBy M1 N w d nd (nI n - 9) hN L1 hd hnd8) ?_
      rintro r30 M30 ⟨rfl, k30, -, -, f30⟩
      refine g_callV rfl rfl rfl rfl rfl mok_Walk_takeIfBetter (by decide) (c_Walk_takeIfBetter M30 w _ _) ?_
      rintro r33 M33 ⟨rfl, a, b, f33⟩
      refine oRun_ok 2 rfl ?_
      rw [c9_s, ← hnd]
      rw [← hnd] at a b
      obtain ⟨x, y⟩ := sMin_step (v := fun n => sGap N d (sNd N d) (nI n - 9)) (num := fun n => nI n - 9) (n := n) (by have := sGap_rng (nd := sNd N d) (ch := nI n - 9) hN hd ⟨by omega, by omega⟩; exact ⟨this.1, by have := this.2; omega⟩) ((k30 4 (by decide)).trans h4) (fun h => (k30 7 (by decide)).trans (h7 h)) a b
      exact ih (n + 1) M33 (by omega) x (fun _ => y) ((hf.tr (oKi_ws f30)).tr (oKi_ws f33))
  refine oRun_ok 6 rfl ?_
  exact loop 19 0 _ rfl (by rw [oUp_self]; rfl) (fun h => by omega) ((oKs_ws f5).up (Or.inr ⟨rfl, Or.inl rfl⟩))
/-- the gaps of the deeds of a year, together -/
def sLs (N : Nat → Int32) (y nd : Int32) : Nat → Int32
  | 0 => 0
  | d + 1 => if N (20 + 35 * d + 2) = y then sLs N y nd d + sGap N d nd (sCh N d) else sLs N y nd d
theorem sLs_rng {N : Nat → Int32} {y nd : Int32} (hN : oNOk N) : ∀ (n : Nat), n ≤ cD N → inR (sLs N y nd n) 0 (1000 * n)
  | 0, _ => ⟨by show (0 : Int) ≤ (0 : Int32).toInt; decide, by show (0 : Int32).toInt ≤ _; decide⟩
  | n + 1, h => by
    obtain ⟨a, b⟩ := sLs_rng (y := y) (nd := nd) hN n (by omega)
    obtain ⟨-, h4⟩ := oND hN
    rw [sLs]
    split
    · have hn : n < cD N := by omega
      obtain ⟨c, d⟩ := sGap_rng (nd := nd) hN hn (sCh_rng hN hn)
      have : (sLs N y nd n + sGap N n nd (sCh N n)).toInt = (sLs N y nd n).toInt + (sGap N n nd (sCh N n)).toInt := iAdd (by omega)
      exact ⟨by rw [this]; omega, by rw [this]; omega⟩
    · exact ⟨a, by omega⟩
theorem c_Walk_learntOf (M : oM) (N : Nat → Int32) (w : Nat) (y : Int32) (hN : oNOk N) (hL : oRL M N w) : oCt 4 k_Walk_learntOf [.inr (K_WALK, w), .inl y] M (fun r M' => r = some (sMin (fun n => sLs N y (nI n) (cD N)) nI 8).2 ∧ oFr (oWs w) M M') := by
  obtain ⟨hD, hD4⟩ := oND hN
  refine oCt.of (ls := [some (.inr (K_WALK, w)), some (.inl y), none, none, none]) mok_Walk_learntOf rfl rfl ?_
  have loop : ∀ (q n : Nat) (M1 : oM) (x3 x4 : Option oV), n + q = 8 → M1 K_WALK w 4 = (sMin (fun n => sLs N y (nI n) (cD N)) nI n).1 → (0 < n → M1 K_WALK w 7 = (sMin (fun n => sLs N y (nI n) (cD N)) nI n).2) → oFr (oWs w) M M1 → oG k_Walk_learntOf 4 8 [some (.inr (K_WALK, w)), some (.inl y), some (.inl (nI n)), x3, x4] [] M1 (fun r M' => r = some (sMin (fun n => sLs N y (nI n) (cD N)) nI 8).2 ∧ oFr (oWs w) M M') := by
    intro q
    induction q with
    | zero =>
      intro n M1 x3 x4 hn h4 h7 hf
      have hn : n = 8 := by omega
      subst hn
      refine oRun_ok 2 rfl ?_
      refine g_ic_ge rfl (fun h11 => ?_) (fun h11 => absurd (by decide) h11)
      refine oRun_ok 2 rfl ?_
      exact g_iret rfl rfl rfl ⟨by rw [show M1 9 w 7 = _ from h7 (by decide)], hf⟩
    | succ q ih =>
      intro n M1 x3 x4 hn h4 h7 hf
      refine oRun_ok 2 rfl ?_
      refine g_ic_ge rfl (fun h11 => ?_) (fun h11 => ?_)
      · have := (nIle (a := 8) (b := n) (by omega) (by omega)).mp h11
        omega
      have inner : ∀ (p e : Nat) (M2 : oM), e + p = cD N → oWk8 M1 M2 w → oFr (oWs w) M M2 → oG k_Walk_learntOf 4 19 [some (.inr (K_WALK, w)), some (.inl y), some (.inl (nI n)), some (.inl (sLs N y (nI n) e)), some (.inl (nI e))] [] M2 (fun r M' => r = some (sMin (fun n => sLs N y (nI n) (cD N)) nI 8).2 ∧ oFr (oWs w) M M') := by
        intro p
        induction p with
        | zero =>
          intro e M2 he k2 f2
          have he : e = cD N := by omega
          subst he
          have L2 := oRL_kp (f2.kp (oWs_kp w)) hL
          refine oRun_ok 4 rfl ?_
          rw [show M2 1 w 4 = nI (cD N) from L2.2.1.trans hD]
          refine g_ic_ge rfl (fun h28 => ?_) (fun h28 => absurd (Int32.le_refl _) h28)
          refine oRun_ok 3 rfl ?_
          refine g_callV rfl rfl rfl rfl rfl mok_Walk_takeIfBetter (by decide) (c_Walk_takeIfBetter M2 w _ _) ?_
          rintro r76 M76 ⟨rfl, a, b, f76⟩
          refine oRun_ok 2 rfl ?_
          rw [nI_1]
          obtain ⟨x, y'⟩ := sMin_step (v := fun n => sLs N y (nI n) (cD N)) (num := nI) (n := n) (by have := sLs_rng (y := y) (nd := nI n) hN (cD N) (Nat.le_refl _); exact ⟨this.1, by have := this.2; omega⟩) ((k2 4 (by decide)).trans h4) (fun h => (k2 7 (by decide)).trans (h7 h)) a b
          exact ih (n + 1) M76 _ _ (by omega) x (fun _ => y') (f2.tr (oKi_ws f76))
        | succ p ip =>
          intro e M2 he k2 f2
          have L2 := oRL_kp (f2.kp (oWs_kp w)) hL
          refine oRun_ok 4 rfl ?_
          rw [show M2 1 w 4 = nI (cD N) from L2.2.1.trans hD]
          refine g_ic_ge rfl (fun h28 => ?_) (fun h28 => ?_)
          · rw [nIle (by omega) (by omega)] at h28
            omega
          refine oRun_ok 4 rfl ?_
          refine g_aald e rfl rfl rfl (by omega) rfl ?_
          refine oRun_ok 2 rfl ?_
          rw [show M2 5 (4 * w + e) 2 = N (20 + 35 * e + 2) from (L2.2.2.2.2.2.1 e (by omega)).1 2 (by decide)]
          refine g_ic_ne rfl (fun h45 => ?_) (fun h45 => ?_)
          · refine oRun_ok 2 rfl ?_
            rw [nI_1]
            have h := ip (e + 1) M2 (by omega) k2 f2
            rw [sLs, if_neg h45] at h
            exact h
          · refine oRun_ok 7 rfl ?_
            refine g_callV rfl rfl rfl rfl rfl mok_Land_chainOf (by decide) (c_Land_chainOf M2 N w e hN L2 (by omega)) ?_
            rintro r59 M59 ⟨rfl, f59⟩
            have L59 := oRL_kp ((oKs_ws (w := w) f59).kp (oWs_kp w)) L2
            refine g_callV rfl rfl rfl rfl rfl mok_Walk_gapBy (by decide) (c_Walk_gapBy M59 N w e n (sCh N e) hN L59 (by omega) (by omega)) ?_
            rintro r62 M62 ⟨rfl, k62, -, -, f62⟩
            refine oRun_ok 4 rfl ?_
            rw [nI_1]
            have h := ip (e + 1) M62 (by omega) (fun j hj => by rw [k62 j hj, f59 K_WALK w (show ¬ K_WALK = K_LSTK by decide)]; exact k2 j hj) ((f2.tr (oKs_ws f59)).tr (oKi_ws f62))
            rw [sLs, if_pos h45] at h
            exact h
      refine oRun_ok 4 rfl ?_
      exact inner (cD N) 0 M1 (by omega) (fun _ _ => rfl) hf
  refine oRun_ok 5 rfl ?_
  exact loop 8 0 _ _ _ rfl (by rw [oUp_self]; rfl) (fun h => by omega) (oFr.rf.up (Or.inr ⟨rfl, Or.inl rfl⟩))
