/-! ===== Land: needle, chain, rank; all taken from another land ===== -/
theorem oLr_none {t : Nat} (h : t < 14) : ¬ nI t = -1000000005 := by
  rw [iEq, nIt (by omega), show (-1000000005 : Int32).toInt = -1000000005 from rfl]
  omega
/-- what the texts of a land, and a deed of it, are in the class -/
theorem oRL_last {M : oM} {N : Nat → Int32} {l : Nat} (hN : oNOk N) (hL : oRL M N l) : (M K_LAND l 6 = nI (cT N) ∧ cT N ≤ 14) ∧ ∀ t, t < cT N → M K_TEXT t 0 = tK N t := by
  obtain ⟨h1, h2⟩ := oNT hN
  exact ⟨⟨hL.2.2.1.trans h1, h2⟩, fun t ht => (hL.2.2.2.2.2.2 t ht).1⟩
theorem oEv_key {N g g' : Nat → Int32} {t key : Nat} (hT : oTOk N t) (hk : tK N t = nI key) (hk2 : key < 3) (hg : ∀ j, j ≤ key → g j = g' j) : oVal g N t = oVal g' N t := by
  unfold oVal
  rw [oEv_congr (key := key) (tN N t) (fun k hkn => by
    have := hT.2.2.2 k hkn
    rw [hk, nIt (by omega)] at this
    exact this) hg]
theorem c_Land_needleOf (M : oM) (N : Nat → Int32) (l d : Nat) (hN : oNOk N) (hL : oRL M N l) (hd : d < cD N) : oCt 2 k_Land_needleOf [.inr (K_LAND, l), .inl (nI d)] M (fun r M' => r = some (sNd N d) ∧ oFr (oKs K_LSTK) M M') := by
  obtain ⟨⟨t1, t2⟩, t3⟩ := oRL_last hN hL
  obtain ⟨-, d4⟩ := oND hN
  refine oCt.of (ls := [some (.inr (K_LAND, l)), some (.inl (nI d)), none]) mok_Land_needleOf rfl rfl ?_
  refine oRun_ok 5 rfl ?_
  rw [show M 1 l 6 = nI (cT N) from t1]
  refine g_callV rfl rfl rfl rfl rfl mok_Laws_lastOf (by decide) (c_Laws_lastOf M N 0 (cT N) t2 t3) ?_
  rintro r9 M9 ⟨rfl, e⟩; rw [e]
  refine oRun_ok 3 rfl ?_
  unfold sNd
  cases hz : oLast N 0 (cT N) with
  | none =>
    refine g_ic_ne rfl (fun h16 => absurd rfl h16) (fun h16 => ?_)
    refine oRun_ok 2 rfl ?_
    exact g_iret rfl rfl rfl ⟨rfl, oFr.rf⟩
  | some t =>
    obtain ⟨a1, a2⟩ := oLast_lt hz
    refine g_ic_ne rfl (fun h16 => ?_) (fun h16 => absurd h16 (oLr_none (by omega)))
    refine oRun_ok 6 rfl ?_
    refine g_aald d rfl rfl rfl (by omega) rfl ?_
    refine oRun_ok 1 rfl ?_
    have hD := hL.2.2.2.2.2.1 d hd
    refine g_callV rfl rfl rfl rfl rfl mok_Laws_workOut (by decide) (c_Laws_workOut M N (gN N d) t (4 * l + d) (nI d) (hN.2.2.2.2.2 t a1) (hL.2.2.2.2.2.2 t a1) (by omega) (hD.1 2 (by decide)) (fun hk => ?_) (fun hk => ?_)) ?_
    · rw [a2] at hk
      exact absurd hk (by decide)
    · rw [a2] at hk
      exact absurd hk (by decide)
    rintro r35 M35 ⟨rfl, hf⟩
    refine oRun_ok 2 rfl ?_
    refine g_iret rfl rfl rfl ⟨?_, hf⟩
    rw [and7]
theorem c_Land_chainOf (M : oM) (N : Nat → Int32) (l d : Nat) (hN : oNOk N) (hL : oRL M N l) (hd : d < cD N) : oCt 2 k_Land_chainOf [.inr (K_LAND, l), .inl (nI d)] M (fun r M' => r = some (sCh N d) ∧ oFr (oKs K_LSTK) M M') := by
  obtain ⟨⟨t1, t2⟩, t3⟩ := oRL_last hN hL
  obtain ⟨-, d4⟩ := oND hN
  have hD := hL.2.2.2.2.2.1 d hd
  refine oCt.of (ls := [some (.inr (K_LAND, l)), some (.inl (nI d)), none]) mok_Land_chainOf rfl rfl ?_
  refine oRun_ok 5 rfl ?_
  rw [show M 1 l 6 = nI (cT N) from t1]
  refine g_callV rfl rfl rfl rfl rfl mok_Laws_lastOf (by decide) (c_Laws_lastOf M N 1 (cT N) t2 t3) ?_
  rintro r9 M9 ⟨rfl, e⟩; rw [e]
  refine oRun_ok 3 rfl ?_
  unfold sCh
  cases hz : oLast N 1 (cT N) with
  | none =>
    refine g_ic_ne rfl (fun h16 => absurd rfl h16) (fun h16 => ?_)
    refine oRun_ok 3 rfl ?_
    refine g_aald d rfl rfl rfl (by omega) rfl ?_
    refine oRun_ok 1 rfl ?_
    exact g_iret rfl rfl rfl ⟨by rw [show M 5 (4 * l + d) 3 = _ from hD.1 3 (by decide)], oFr.rf⟩
  | some t =>
    obtain ⟨a1, a2⟩ := oLast_lt hz
    refine g_ic_ne rfl (fun h16 => ?_) (fun h16 => absurd h16 (oLr_none (by omega)))
    refine oRun_ok 8 rfl ?_
    refine g_aald d rfl rfl rfl (by omega) rfl ?_
    refine oRun_ok 1 rfl ?_
    refine g_callV rfl rfl rfl rfl rfl mok_Laws_workOut (by decide) (c_Laws_workOut M N (gC N d) t (4 * l + d) (nI d) (hN.2.2.2.2.2 t a1) (hL.2.2.2.2.2.2 t a1) (by omega) (hD.1 2 (by decide)) (fun _ => hD.1 3 (by decide)) (fun hk => ?_)) ?_
    · rw [a2] at hk
      exact absurd hk (by decide)
    rintro r45 M45 ⟨rfl, hf⟩
    refine g_callS rfl rfl rfl rfl mok_Math_min (by decide) (c_Math_min M45 _ _) ?_
    rintro r48 M48 ⟨rfl, e⟩; rw [e]
    refine g_callS rfl rfl rfl rfl mok_Math_max (by decide) (c_Math_max M45 _ _) ?_
    rintro r51 M51 ⟨rfl, e⟩; rw [e]
    refine g_iret rfl rfl rfl ⟨?_, hf⟩
    rw [clamp_eq]
theorem c_Land_rankOf (M : oM) (N : Nat → Int32) (l d : Nat) (hN : oNOk N) (hL : oRL M N l) (hd : d < cD N) : oCt 2 k_Land_rankOf [.inr (K_LAND, l), .inl (nI d)] M (fun r M' => r = some (sRk N d) ∧ oFr (oKs K_LSTK) M M') := by
  obtain ⟨⟨t1, t2⟩, t3⟩ := oRL_last hN hL
  obtain ⟨-, d4⟩ := oND hN
  have hD := hL.2.2.2.2.2.1 d hd
  refine oCt.of (ls := [some (.inr (K_LAND, l)), some (.inl (nI d)), none]) mok_Land_rankOf rfl rfl ?_
  refine oRun_ok 5 rfl ?_
  rw [show M 1 l 6 = nI (cT N) from t1]
  refine g_callV rfl rfl rfl rfl rfl mok_Laws_lastOf (by decide) (c_Laws_lastOf M N 2 (cT N) t2 t3) ?_
  rintro r9 M9 ⟨rfl, e⟩; rw [e]
  refine oRun_ok 3 rfl ?_
  unfold sRk
  cases hz : oLast N 2 (cT N) with
  | none =>
    refine g_ic_ne rfl (fun h16 => absurd rfl h16) (fun h16 => ?_)
    refine oRun_ok 3 rfl ?_
    refine g_aald d rfl rfl rfl (by omega) rfl ?_
    refine oRun_ok 2 rfl ?_
    exact g_iret rfl rfl rfl ⟨by rw [show M 5 (4 * l + d) 2 = _ from hD.1 2 (by decide)], oFr.rf⟩
  | some t =>
    obtain ⟨a1, a2⟩ := oLast_lt hz
    refine g_ic_ne rfl (fun h16 => ?_) (fun h16 => absurd h16 (oLr_none (by omega)))
    refine oRun_ok 6 rfl ?_
    refine g_aald d rfl rfl rfl (by omega) rfl ?_
    refine oRun_ok 1 rfl ?_
    refine g_callV rfl rfl rfl rfl rfl mok_Laws_workOut (by decide) (c_Laws_workOut M N (gF N d) t (4 * l + d) (nI d) (hN.2.2.2.2.2 t a1) (hL.2.2.2.2.2.2 t a1) (by omega) (hD.1 2 (by decide)) (fun hk => ?_) (fun _ => ⟨rfl, hD.1 4 (by decide)⟩)) ?_
    · rw [a2] at hk
      exact absurd hk (by decide)
    rintro r43 M43 ⟨rfl, hf⟩
    exact g_iret rfl rfl rfl ⟨rfl, hf⟩
/-- the cells of a land, but for its laws -/
def oLS (l : Nat) : Nat → Nat → Prop := fun k i => (i = l ∧ (k = K_LAND ∨ k = K_STX ∨ k = K_STY)) ∨ (4 * l ≤ i ∧ i < 4 * l + 4 ∧ (k = K_DEED ∨ k = K_DK ∨ k = K_DW ∨ k = K_DL))
def Q_landTake (M : oM) (a b : Nat) : Option Int32 → oM → Prop := fun r M' => r = none ∧ (M' K_LAND a 1 = M K_LAND b 1 ∧ M' K_LAND a 4 = M K_LAND b 4 ∧ M' K_LAND a 6 = M K_LAND b 6 ∧ M' K_LAND a 7 = M K_LAND b 7) ∧ (∀ s, s < 8 → M' K_STX a s = M K_STX b s ∧ M' K_STY a s = M K_STY b s) ∧ (∀ d, d < 4 → (∀ w, w < 5 → M' K_DEED (4 * a + d) w = M K_DEED (4 * b + d) w) ∧ ∀ s, s < 10 → M' K_DK (4 * a + d) s = M K_DK (4 * b + d) s ∧ M' K_DW (4 * a + d) s = M K_DW (4 * b + d) s ∧ M' K_DL (4 * a + d) s = M K_DL (4 * b + d) s) ∧ oFr (oLS a) M M'
theorem c_Land_takeFrom (M : oM) (a b : Nat) (hab : ¬ b = a) : oCt 1 k_Land_takeFrom [.inr (K_LAND, a), .inr (K_LAND, b)] M (Q_landTake M a b) := by
  refine oCt.of (ls := [some (.inr (K_LAND, a)), some (.inr (K_LAND, b)), none]) mok_Land_takeFrom rfl rfl ?_
  have hb : ∀ {M1 : oM}, oFr (oLS a) M M1 → (∀ k, k = K_LAND ∨ k = K_STX ∨ k = K_STY → M1 k b = M k b) ∧ ∀ k d, d < 4 → k = K_DEED ∨ k = K_DK ∨ k = K_DW ∨ k = K_DL → M1 k (4 * b + d) = M k (4 * b + d) := by
    intro M1 hf
    refine ⟨fun k hk => hf k b ?_, fun k d hd hk => hf k _ ?_⟩
    · rintro (⟨h1, -⟩ | ⟨-, -, h3⟩)
      · exact hab h1
      · rcases hk with rfl | rfl | rfl <;> rcases h3 with h | h | h | h <;> revert h <;> decide
    · rintro (⟨-, h1⟩ | ⟨h1, h2, -⟩)
      · rcases hk with rfl | rfl | rfl | rfl <;> rcases h1 with h | h | h <;> revert h <;> decide
      · omega
  have last : ∀ (q d : Nat) (M1 : oM), d + q = 4 → (M1 K_LAND a 1 = M K_LAND b 1 ∧ M1 K_LAND a 4 = M K_LAND b 4) → (∀ s, s < 8 → M1 K_STX a s = M K_STX b s ∧ M1 K_STY a s = M K_STY b s) → (∀ e, e < d → (∀ w, w < 5 → M1 K_DEED (4 * a + e) w = M K_DEED (4 * b + e) w) ∧ ∀ s, s < 10 → M1 K_DK (4 * a + e) s = M K_DK (4 * b + e) s ∧ M1 K_DW (4 * a + e) s = M K_DW (4 * b + e) s ∧ M1 K_DL (4 * a + e) s = M K_DL (4 * b + e) s) → oFr (oLS a) M M1 → oG k_Land_takeFrom 1 56 [some (.inr (K_LAND, a)), some (.inr (K_LAND, b)), some (.inl (nI d))] [] M1 (Q_landTake M a b) := by
    intro q
    induction q with
    | zero =>
      intro d M1 hd h1 h2 h3 h4
      refine oRun_ok 2 rfl ?_
      refine g_ic_ge rfl (fun h58 => ?_) (fun h58 => absurd (nI_le (a := 4) (b := d) (by omega) (by omega)) h58)
      refine oRun_ok 8 rfl ?_
      have hb' := hb h4
      refine g_ret rfl rfl ⟨rfl, ⟨?_, ?_, ?_, ?_⟩, h2, fun e he => h3 e (by omega), (h4.up (Or.inl ⟨rfl, Or.inl rfl⟩)).up (Or.inl ⟨rfl, Or.inl rfl⟩)⟩
      · rw [oUp_j (by decide), oUp_j (by decide)]; exact h1.1
      · rw [oUp_j (by decide), oUp_j (by decide)]; exact h1.2
      · rw [oUp_j (by decide), oUp_self]
        show M1 K_LAND b 6 = _
        rw [hb'.1 K_LAND (Or.inl rfl)]
      · rw [oUp_self]
        show oUp M1 K_LAND a 6 _ K_LAND b 7 = _
        rw [oUp_i hab, hb'.1 K_LAND (Or.inl rfl)]
    | succ q ih =>
      intro d M1 hd h1 h2 h3 h4
      refine oRun_ok 2 rfl ?_
      refine g_ic_ge rfl (fun h58 => ?_) (fun h58 => ?_)
      · have := (nIle (a := 4) (b := d) (by omega) (by omega)).mp h58
        omega
      refine oRun_ok 3 rfl ?_
      refine g_aald d rfl rfl rfl (by omega) rfl ?_
      refine oRun_ok 3 rfl ?_
      refine g_aald d rfl rfl rfl (by omega) rfl ?_
      refine g_callV rfl rfl rfl rfl rfl mok_Deed_takeFrom (by decide) (c_Deed_takeFrom M1 (4 * a + d) (4 * b + d) (by omega)) ?_
      rintro r73 M73 ⟨rfl, k1, k2, k3⟩
      refine oRun_ok 2 rfl ?_
      rw [nI_1]
      have hb' := hb h4
      have nd : ∀ k i, ¬ i = 4 * a + d → M73 k i = M1 k i := fun k i hi => k3 k i (fun q => hi q.1)
      have nk : ∀ k i, k = K_LAND ∨ k = K_STX ∨ k = K_STY → M73 k i = M1 k i := fun k i hk => k3 k i (by
        rintro ⟨-, h⟩
        rcases hk with rfl | rfl | rfl <;> rcases h with h | h | h | h <;> revert h <;> decide)
      refine ih (d + 1) M73 (by omega) ?_ ?_ ?_ (h4.tr (k3.mono ?_))
      · rw [nk K_LAND a (Or.inl rfl)]; exact h1
      · intro s hs
        rw [nk K_STX a (Or.inr (Or.inl rfl)), nk K_STY a (Or.inr (Or.inr rfl))]
        exact h2 s hs
      · intro e he
        by_cases hed : e = d
        · subst hed
          refine ⟨fun w hw => ?_, fun s hs => ?_⟩
          · rw [k1 w hw, hb'.2 K_DEED e (by omega) (Or.inl rfl)]
          · obtain ⟨x, y, z'⟩ := k2 s hs
            rw [x, y, z', hb'.2 K_DK e (by omega) (Or.inr (Or.inl rfl)), hb'.2 K_DW e (by omega) (Or.inr (Or.inr (Or.inl rfl))), hb'.2 K_DL e (by omega) (Or.inr (Or.inr (Or.inr rfl)))]
            exact ⟨rfl, rfl, rfl⟩
        · rw [nd K_DEED _ (by omega), nd K_DK _ (by omega), nd K_DW _ (by omega), nd K_DL _ (by omega)]
          exact h3 e (by omega)
      · rintro k i ⟨rfl, hk⟩
        exact Or.inr ⟨by omega, by omega, hk⟩
  have first : ∀ (q s : Nat) (M1 : oM), s + q = 8 → M1 K_LAND a 1 = M K_LAND b 1 → (∀ j, j < s → M1 K_STX a j = M K_STX b j ∧ M1 K_STY a j = M K_STY b j) → oFr (oLS a) M M1 → oG k_Land_takeFrom 1 10 [some (.inr (K_LAND, a)), some (.inr (K_LAND, b)), some (.inl (nI s))] [] M1 (Q_landTake M a b) := by
    intro q
    induction q with
    | zero =>
      intro s M1 hs h1 h2 h3
      refine oRun_ok 2 rfl ?_
      refine g_ic_ge rfl (fun h13 => ?_) (fun h13 => absurd (nI_le (a := 8) (b := s) (by omega) (by omega)) h13)
      refine oRun_ok 6 rfl ?_
      refine last 4 0 _ rfl ⟨?_, ?_⟩ (fun j hj => h2 j (by omega)) (fun e he => by omega) (h3.up (Or.inl ⟨rfl, Or.inl rfl⟩))
      · rw [oUp_j (by decide)]; exact h1
      · rw [oUp_self, show M1 1 b 4 = M1 K_LAND b 4 from rfl, (hb h3).1 K_LAND (Or.inl rfl)]
    | succ q ih =>
      intro s M1 hs h1 h2 h3
      refine oRun_ok 2 rfl ?_
      refine g_ic_ge rfl (fun h13 => ?_) (fun h13 => ?_)
      · have := (nIle (a := 8) (b := s) (by omega) (by omega)).mp h13
        omega
      refine oRun_ok 6 rfl ?_
      refine g_iald s rfl rfl rfl (by omega) ?_
      refine g_iast s rfl rfl rfl (by omega) ?_
      refine oRun_ok 6 rfl ?_
      refine g_iald s rfl rfl rfl (by omega) ?_
      refine g_iast s rfl rfl rfl (by omega) ?_
      refine oRun_ok 2 rfl ?_
      rw [nI_1]
      refine ih (s + 1) _ (by omega) h1 (fun j hj => ?_) ((h3.up (Or.inl ⟨rfl, Or.inr (Or.inl rfl)⟩)).up (Or.inl ⟨rfl, Or.inr (Or.inr rfl)⟩))
      by_cases hjs : j = s
      · subst hjs
        refine ⟨?_, ?_⟩
        · show oUp M1 2 a j _ 2 a j = _
          rw [oUp_self, show M1 2 b j = M1 K_STX b j from rfl, (hb h3).1 K_STX (Or.inr (Or.inl rfl))]
        · show oUp (oUp M1 2 a j _) 3 a j _ 3 a j = _
          rw [oUp_self]
          show M1 K_STY b j = _
          rw [(hb h3).1 K_STY (Or.inr (Or.inr rfl))]
      · obtain ⟨x, y⟩ := h2 j (by omega)
        refine ⟨?_, ?_⟩
        · show oUp M1 2 a s _ 2 a j = _
          rw [oUp_j hjs]; exact x
        · show oUp (oUp M1 2 a s _) 3 a s _ 3 a j = _
          rw [oUp_j hjs]; exact y
  refine oRun_ok 6 rfl ?_
  refine first 8 0 _ rfl ?_ (fun j hj => by omega) (oFr.rf.up (Or.inl ⟨rfl, Or.inl rfl⟩))
  rw [oUp_self]
