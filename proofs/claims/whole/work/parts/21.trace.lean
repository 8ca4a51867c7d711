/-! ===== Walk: corners, gaps ===== -/
theorem oCt.imp {d k : Nat} {as : List oV} {M : oM} {Q Q' : Option Int32 → oM → Prop} (h : oCt d k as M Q) (hQ : ∀ r M', Q r M' → Q' r M') : oCt d k as M Q' := by
  intro l E hok
  refine MetFree.mono (h l E hok) (fun _ _ p => p) (fun _ _ _ _ _ p => p) (fun a s o t _ q => ?_)
  obtain ⟨⟨⟨r, M', h1, h2, h3⟩, h4⟩, h5⟩ := q
  exact ⟨⟨⟨r, M', h1, hQ r M' h2, h3⟩, h4⟩, h5⟩
def oRLk : List Nat := [K_LAND, K_STX, K_STY, K_DEED, K_DK, K_DW, K_DL, K_TEXT, K_TCOD]
def oKp (M M' : oM) : Prop := ∀ k ∈ oRLk, ∀ i, M' k i = M k i
theorem oFr.kp {S : Nat → Nat → Prop} {M M' : oM} (h : oFr S M M') (hS : ∀ k ∈ oRLk, ∀ i, ¬ S k i) : oKp M M' := fun k hk i => h k i (hS k hk i)
theorem oKp.rf {M : oM} : oKp M M := fun _ _ _ => rfl
theorem oKp.tr {M M1 M2 : oM} (h1 : oKp M M1) (h2 : oKp M1 M2) : oKp M M2 := fun k hk i => (h2 k hk i).trans (h1 k hk i)
theorem oRL_kp {M M' : oM} {N : Nat → Int32} {l : Nat} (h : oKp M M') (hL : oRL M N l) : oRL M' N l := by
  have e : ∀ k ∈ oRLk, ∀ i, M' k i = M k i := h
  unfold oRL oRD oRT at hL ⊢
  simp only [e K_LAND (by decide), e K_STX (by decide), e K_STY (by decide), e K_DEED (by decide), e K_DK (by decide), e K_DW (by decide), e K_DL (by decide), e K_TEXT (by decide), e K_TCOD (by decide)]
  exact hL
def sCor (N : Nat → Int32) (bx b2 nd ch : Int32) (ka wa la : Nat → Int32) : Nat → Int32 × Int32
  | 0 => (bx, b2)
  | k + 1 => sStep N bx b2 nd ch (ka k) (wa k) (la k) (sCor N bx b2 nd ch ka wa la k).1 (sCor N bx b2 nd ch ka wa la k).2
def kA (N : Nat → Int32) (d : Nat) : Nat → Int32 := fun j => N (20 + 35 * d + 5 + 3 * j)
def wA (N : Nat → Int32) (d : Nat) : Nat → Int32 := fun j => N (20 + 35 * d + 5 + 3 * j + 1)
def lA (N : Nat → Int32) (d : Nat) : Nat → Int32 := fun j => N (20 + 35 * d + 5 + 3 * j + 2)
def sC (N : Nat → Int32) (d : Nat) (nd ch : Int32) : Nat → Int32 × Int32 := sCor N (N (20 + 35 * d)) (N (20 + 35 * d + 1)) nd ch (kA N d) (wA N d) (lA N d)
def sGapP (bx b2 : Int32) (p : Int32 × Int32) : Int32 := f_Mod_size (p.1 - bx) + f_Mod_size (p.2 - b2)
/-- the gap of a deed with a needle and a chain -/
def sGap (N : Nat → Int32) (d : Nat) (nd ch : Int32) : Int32 := sGapP (N (20 + 35 * d)) (N (20 + 35 * d + 1)) (sC N d nd ch (cC N d))
theorem oCall_ok {N : Nat → Int32} {d j : Nat} (h : oDOk N d) (hj : j < cC N d) : ∃ kd wy ln, kd < 6 ∧ wy < 8 ∧ (1 ≤ ln ∧ ln ≤ 20) ∧ kA N d j = nI kd ∧ wA N d j = nI wy ∧ lA N d j = nI ln := by
  obtain ⟨h1, h2, h3⟩ := h.2.2.2.2.2 j hj
  refine ⟨_, _, _, ?_, ?_, ?_, nI_ofInt h1.1, nI_ofInt h2.1, nI_ofInt (by have := h3.1; show 0 ≤ (lA N d j).toInt; unfold lA; omega)⟩
  · have := h1.2; show (kA N d j).toInt.toNat < 6; unfold kA; have := h1.1; omega
  · have := h2.2; show (wA N d j).toInt.toNat < 8; unfold wA; have := h2.1; omega
  · have := h3.2; have := h3.1
    show 1 ≤ (lA N d j).toInt.toNat ∧ (lA N d j).toInt.toNat ≤ 20
    unfold lA
    omega
theorem sNd_lt (N : Nat → Int32) (d : Nat) : ∃ nd, nd < 8 ∧ sNd N d = nI nd := by
  unfold sNd
  split
  · exact ⟨0, by decide, rfl⟩
  · rename_i t ht
    rw [← and7, pk_and _ (m := 7) 3 rfl]
    exact ⟨_, Nat.mod_lt _ (by decide), rfl⟩
theorem rem8_id {n : Nat} (h : n < 8) : oRem (nI n) 8 = nI n := by rw [nI_rem8 (by omega), Nat.mod_eq_of_lt h]
/-- what a walk writes -/
def oWs (w : Nat) : Nat → Nat → Prop := fun k i => k = K_LSTK ∨ (i = w ∧ (k = K_WALK ∨ k = K_WX ∨ k = K_WY))
theorem oWs_kp (w : Nat) : ∀ k ∈ oRLk, ∀ i, ¬ oWs w k i := by
  intro k hk i h
  have : k = K_LSTK ∨ k = K_WALK ∨ k = K_WX ∨ k = K_WY := h.elim Or.inl (fun q => Or.inr q.2)
  revert hk
  rcases this with rfl | rfl | rfl | rfl <;> decide
theorem oKs_ws {w : Nat} {M M' : oM} (h : oFr (oKs K_LSTK) M M') : oFr (oWs w) M M' := h.mono (fun k i q => Or.inl q)
theorem oKi_ws {w : Nat} {M M' : oM} (h : oFr (oKi K_WALK w) M M') : oFr (oWs w) M M' := h.mono (fun k i q => Or.inr ⟨q.2, Or.inl q.1⟩)
/-- the walker stands at a corner of a deed -/
def oAt (M : oM) (w : Nat) (bx b2 nd ch : Int32) (p : Int32 × Int32) : Prop := M K_WALK w 8 = bx ∧ M K_WALK w 9 = b2 ∧ M K_WALK w 10 = nd ∧ M K_WALK w 11 = ch ∧ M K_WALK w 12 = p.1 ∧ M K_WALK w 13 = p.2
theorem oAt_step {M : oM} {w : Nat} {bx b2 nd ch x y : Int32} {p : Int32 × Int32} (h : oAt M w bx b2 nd ch p) : oAt (oUp (oUp M K_WALK w 12 x) K_WALK w 13 y) w bx b2 nd ch (x, y) := by
  obtain ⟨a1, a2, a3, a4, a5, a6⟩ := h
  refine ⟨?_, ?_, ?_, ?_, ?_, ?_⟩
  · rw [oUp_j (by decide), oUp_j (by decide)]; exact a1
  · rw [oUp_j (by decide), oUp_j (by decide)]; exact a2
  · rw [oUp_j (by decide), oUp_j (by decide)]; exact a3
  · rw [oUp_j (by decide), oUp_j (by decide)]; exact a4
  · rw [oUp_j (by decide), oUp_self]
  · rw [oUp_self]
theorem oAt_out {M M' : oM} {w : Nat} {bx b2 nd ch : Int32} (h : M' K_WALK w = oSO (M K_WALK w) bx b2 nd ch) : oAt M' w bx b2 nd ch (bx, b2) := by
  unfold oAt
  rw [h]
  exact ⟨rfl, rfl, rfl, rfl, rfl, rfl⟩
/-- one call further -/
theorem c_go (M : oM) (N : Nat → Int32) (w kd wy ln nd : Nat) (bx b2 ch : Int32) (p : Int32 × Int32) (hN : oNOk N) (hL : oRL M N w) (h1 : kd < 6) (h2 : wy < 12) (h3 : 1 ≤ ln ∧ ln ≤ 20) (h4 : nd < 8) (ha : oAt M w bx b2 (nI nd) ch p) :
    oCt 2 k_Walk_goOn [.inr (K_WALK, w), .inl (nI kd), .inl (nI wy), .inl (nI ln)] M (fun r M' => r = none ∧ oAt M' w bx b2 (nI nd) ch (sStep N bx b2 (nI nd) ch (nI kd) (oRem (nI wy) 8) (nI ln) p.1 p.2) ∧ oFr (oKi K_WALK w) M M' ∧ ∀ j, j < 8 → M' K_WALK w j = M K_WALK w j) := by
  obtain ⟨a1, a2, a3, a4, a5, a6⟩ := id ha
  refine (c_Walk_goOn M N w kd wy ln nd hN hL h1 h2 h3 h4 a3).imp ?_
  rintro r M' ⟨rfl, e⟩
  rw [a1, a2, a4, a5, a6] at e
  refine ⟨rfl, ?_, ?_, fun j hj => ?_⟩
  · rw [e]
    exact oAt_step ha
  · rw [e]
    exact (oFr.rf.up ⟨rfl, rfl⟩).up ⟨rfl, rfl⟩
  · rw [e, oUp_j (by omega), oUp_j (by omega)]
def Q_trace (M : oM) (N : Nat → Int32) (w d : Nat) : Option Int32 → oM → Prop := fun r M' => r = none ∧ M' K_WALK w 3 = nI (cC N d + 1) ∧ (∀ j, j ≤ cC N d → M' K_WX w j = (sC N d (sNd N d) (sCh N d) j).1 ∧ M' K_WY w j = (sC N d (sNd N d) (sCh N d) j).2) ∧ oFr (oWs w) M M'
theorem c_Walk_traceDeed (M : oM) (N : Nat → Int32) (w d : Nat) (hN : oNOk N) (hL : oRL M N w) (hd : d < cD N) : oCt 3 k_Walk_traceDeed [.inr (K_WALK, w), .inl (nI d)] M (Q_trace M N w d) := by
  obtain ⟨-, d4⟩ := oND hN
  have hDo := hN.2.2.2.2.1 d hd
  obtain ⟨hC, hC10⟩ := oNC hDo
  obtain ⟨nd, hnd8, hnd⟩ := sNd_lt N d
  refine oCt.of (ls := [some (.inr (K_WALK, w)), some (.inl (nI d)), none, none]) mok_Walk_traceDeed rfl rfl ?_
  refine oRun_ok 4 rfl ?_
  refine g_aald d rfl rfl rfl (by omega) rfl ?_
  refine oRun_ok 6 rfl ?_
  refine g_callV rfl rfl rfl rfl rfl mok_Land_needleOf (by decide) (c_Land_needleOf M N w d hN hL hd) ?_
  rintro r17 M17 ⟨rfl, f17⟩
  have L17 := oRL_kp ((oKs_ws (w := w) f17).kp (oWs_kp w)) hL
  refine oRun_ok 3 rfl ?_
  refine g_callV rfl rfl rfl rfl rfl mok_Land_chainOf (by decide) (c_Land_chainOf M17 N w d hN L17 hd) ?_
  rintro r25 M25 ⟨rfl, f25⟩
  have F25 : oFr (oWs w) M M25 := (oKs_ws f17).tr (oKs_ws f25)
  have L25 := oRL_kp (F25.kp (oWs_kp w)) hL
  refine g_callV rfl rfl rfl rfl rfl mok_Walk_setOut (by decide) (c_Walk_setOut M25 w (4 * w + d) _ _) ?_
  rintro r28 M28 ⟨rfl, e28, f28⟩
  have F28 : oFr (oWs w) M M28 := F25.tr (oKi_ws f28)
  have D25 := (L25.2.2.2.2.2.1 d hd).1
  rw [D25 0 (by decide), D25 1 (by decide)] at e28
  have A28 := oAt_out e28
  have loop : ∀ (q j : Nat) (M1 : oM), j + q = cC N d → oAt M1 w (N (20 + 35 * d)) (N (20 + 35 * d + 1)) (sNd N d) (sCh N d) (sC N d (sNd N d) (sCh N d) j) → (∀ a, a ≤ j → M1 K_WX w a = (sC N d (sNd N d) (sCh N d) a).1 ∧ M1 K_WY w a = (sC N d (sNd N d) (sCh N d) a).2) → oFr (oWs w) M M1 → oG k_Walk_traceDeed 3 53 [some (.inr (K_WALK, w)), some (.inl (nI d)), some (.inr (K_DEED, 4 * w + d)), some (.inl (nI j))] [] M1 (Q_trace M N w d) := by
    intro q
    induction q with
    | zero =>
      intro j M1 hj ha hc hf
      have L1 := oRL_kp (hf.kp (oWs_kp w)) hL
      have D1 := L1.2.2.2.2.2.1 d hd
      have ec : M1 5 (4 * w + d) 4 = nI (cC N d) := (D1.1 4 (by decide)).trans hC
      refine oRun_ok 3 rfl ?_
      rw [ec]
      refine g_ic_ge rfl (fun h58 => ?_) (fun h58 => ?_)
      · refine oRun_ok 6 rfl ?_
        refine g_ret rfl rfl ⟨rfl, ?_, fun a ha' => hc a (by omega), hf.up (Or.inr ⟨rfl, Or.inl rfl⟩)⟩
        rw [oUp_self, ec, nI_1]
      · rw [nIle (by omega) (by omega)] at h58
        omega
    | succ q ih =>
      intro j M1 hj ha hc hf
      have L1 := oRL_kp (hf.kp (oWs_kp w)) hL
      have D1 := L1.2.2.2.2.2.1 d hd
      have ec : M1 5 (4 * w + d) 4 = nI (cC N d) := (D1.1 4 (by decide)).trans hC
      obtain ⟨kd, wy, ln, b1, b2, b3, e1, e2, e3⟩ := oCall_ok hDo (show j < cC N d by omega)
      obtain ⟨g1, g2, g3⟩ := D1.2 j (by omega)
      refine oRun_ok 3 rfl ?_
      rw [ec]
      refine g_ic_ge rfl (fun h58 => ?_) (fun h58 => ?_)
      · rw [nIle (by omega) (by omega)] at h58
        omega
      refine oRun_ok 4 rfl ?_
      refine g_iald j rfl rfl rfl (by omega) ?_
      refine oRun_ok 3 rfl ?_
      refine g_iald j rfl rfl rfl (by omega) ?_
      refine oRun_ok 3 rfl ?_
      refine g_iald j rfl rfl rfl (by omega) ?_
      rw [show M1 6 (4 * w + d) j = nI kd from g1.trans e1, show M1 7 (4 * w + d) j = nI wy from g2.trans e2, show M1 8 (4 * w + d) j = nI ln from g3.trans e3]
      rw [hnd] at ha
      refine g_callV rfl rfl rfl rfl rfl mok_Walk_goOn (by decide) (c_go M1 N w kd wy ln nd _ _ _ _ hN L1 b1 (by omega) b3 hnd8 ha) ?_
      rintro r80 M80 ⟨rfl, a80, f80, -⟩
      rw [rem8_id b2, ← hnd, ← e1, ← e2, ← e3] at a80
      have a80 : oAt M80 w (N (20 + 35 * d)) (N (20 + 35 * d + 1)) (sNd N d) (sCh N d) (sC N d (sNd N d) (sCh N d) (j + 1)) := a80
      refine oRun_ok 7 rfl ?_
      refine g_iast (j + 1) rfl rfl (nI_1 j) (by omega) ?_
      refine oRun_ok 7 rfl ?_
      refine g_iast (j + 1) rfl rfl (nI_1 j) (by omega) ?_
      refine oRun_ok 2 rfl ?_
      rw [nI_1]
      have nx : ∀ a, M80 K_WX w a = M1 K_WX w a := fun a => by rw [f80 K_WX w (fun q => absurd q.1 (by decide))]
      have ny : ∀ a, M80 K_WY w a = M1 K_WY w a := fun a => by rw [f80 K_WY w (fun q => absurd q.1 (by decide))]
      refine ih (j + 1) _ (by omega) a80 (fun a ha' => ?_) (((hf.tr (oKi_ws f80)).up (Or.inr ⟨rfl, Or.inr (Or.inl rfl)⟩)).up (Or.inr ⟨rfl, Or.inr (Or.inr rfl)⟩))
      by_cases haj : a = j + 1
      · subst haj
        refine ⟨?_, ?_⟩
        · show oUp M80 10 w (j + 1) _ 10 w (j + 1) = _
          rw [oUp_self]
          exact a80.2.2.2.2.1
        · show oUp (oUp M80 10 w (j + 1) _) 11 w (j + 1) _ 11 w (j + 1) = _
          rw [oUp_self]
          exact a80.2.2.2.2.2
      · obtain ⟨x1, x2⟩ := hc a (by omega)
        refine ⟨?_, ?_⟩
        · show oUp M80 10 w (j + 1) _ 10 w a = _
          rw [oUp_j haj]
          exact (nx a).trans x1
        · show oUp (oUp M80 10 w (j + 1) _) 11 w (j + 1) _ 11 w a = _
          rw [oUp_j haj]
          exact (ny a).trans x2
  refine oRun_ok 5 rfl ?_
  refine g_iast 0 rfl rfl rfl (by decide) ?_
  refine oRun_ok 5 rfl ?_
  refine g_iast 0 rfl rfl rfl (by decide) ?_
  refine oRun_ok 2 rfl ?_
  refine loop (cC N d) 0 _ (by omega) A28 (fun a ha => ?_) ((F28.up (Or.inr ⟨rfl, Or.inr (Or.inl rfl)⟩)).up (Or.inr ⟨rfl, Or.inr (Or.inr rfl)⟩))
  have : a = 0 := by omega
  subst this
  refine ⟨?_, ?_⟩
  · show oUp M28 10 w 0 _ 10 w 0 = _
    rw [oUp_self]
    exact A28.2.2.2.2.1
  · show oUp (oUp M28 10 w 0 _) 11 w 0 _ 11 w 0 = _
    rw [oUp_self]
    exact A28.2.2.2.2.2
theorem c_Walk_cornersInRow (M : oM) (w p : Nat) (hp : p < 22) : oCt 0 k_Walk_cornersInRow [.inr (K_WALK, w), .inl (nI p)] M (fun r M' => r = some (if p % 2 = 0 then M K_WX w (p / 2) else M K_WY w (p / 2)) ∧ M' = M) := by
  refine oCt.of (ls := [some (.inr (K_WALK, w)), some (.inl (nI p))]) mok_Walk_cornersInRow rfl rfl ?_
  refine oRun_ok 3 rfl ?_
  rw [show oRem (nI p) 2 = nI (p % 2) from nIrem (d := 2) (by omega) (by decide) (by decide)]
  refine g_if_ne rfl (fun h3 => ?_) (fun h3 => ?_)
  · have hz : ¬ p % 2 = 0 := fun q => h3 (by rw [q]; rfl)
    rw [if_neg hz]
    refine oRun_ok 5 rfl ?_
    refine g_iald (p / 2) rfl rfl (nIdiv (d := 2) (by omega) (by decide) (by decide)) (by omega) ?_
    exact g_iret rfl rfl rfl ⟨rfl, rfl⟩
  · have hz : p % 2 = 0 := (nIe (a := p % 2) (b := 0) (by omega) (by omega)).mp h3
    rw [if_pos hz]
    refine oRun_ok 5 rfl ?_
    refine g_iald (p / 2) rfl rfl (nIdiv (d := 2) (by omega) (by decide) (by decide)) (by omega) ?_
    refine oRun_ok 1 rfl ?_
    exact g_iret rfl rfl rfl ⟨rfl, rfl⟩
theorem c_Walk_nextCorner (M : oM) (w i n : Nat) (hn : M K_WALK w 3 = nI n) (hn11 : n ≤ 11) (hi : i < n) : oCt 0 k_Walk_nextCorner [.inr (K_WALK, w), .inl (nI i)] M (fun r M' => r = some (nI (if i + 1 = n then 0 else i + 1)) ∧ M' = M) := by
  refine oCt.of (ls := [some (.inr (K_WALK, w)), some (.inl (nI i))]) mok_Walk_nextCorner rfl rfl ?_
  refine oRun_ok 5 rfl ?_
  rw [nI_1, show M 9 w 3 = nI n from hn]
  refine g_ic_ge rfl (fun h7 => ?_) (fun h7 => ?_)
  · rw [nIle (by omega) (by omega)] at h7
    rw [if_pos (by omega)]
    refine oRun_ok 1 rfl ?_
    exact g_iret rfl rfl rfl ⟨rfl, rfl⟩
  · rw [nIle (by omega) (by omega)] at h7
    rw [if_neg (by omega)]
    refine oRun_ok 4 rfl ?_
    exact g_iret rfl rfl rfl ⟨by rw [nI_1], rfl⟩
theorem c_Walk_gapHere (M : oM) (w : Nat) : oCt 2 k_Walk_gapHere [.inr (K_WALK, w)] M (fun r M' => r = some (sGapP (M K_WALK w 8) (M K_WALK w 9) (M K_WALK w 12, M K_WALK w 13)) ∧ M' = M) := by
  refine oCt.of (ls := [some (.inr (K_WALK, w))]) mok_Walk_gapHere rfl rfl ?_
  refine oRun_ok 8 rfl ?_
  refine g_callSN rfl rfl rfl rfl mok_Oak_farApart (by decide) (c_Oak_farApart M _ _ _ _) ?_
  rintro r16 M16 ⟨rfl, e⟩; rw [e]
  exact g_iret rfl rfl rfl ⟨rfl, rfl⟩
