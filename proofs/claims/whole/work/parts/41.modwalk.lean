/-! ===== Model: the walk ===== -/
/-- what the model's walk writes -/
def oMw : Nat → Nat → Prop := fun k _ => k = K_M_cornerX ∨ k = K_M_cornerY
/-- a corner is set -/
def oWr (M M1 : oM) (k : Nat) (X Y : Int32) : Prop := (∀ j, M1 K_M_cornerX 0 j = if j = k then X else M K_M_cornerX 0 j) ∧ (∀ j, M1 K_M_cornerY 0 j = if j = k then Y else M K_M_cornerY 0 j) ∧ oFr oMw M M1
theorem oWr_x {M M1 : oM} {k : Nat} {X Y X' : Int32} (h : oWr M M1 k X Y) : oWr M (oUp M1 38 0 k X') k X' Y := by
  obtain ⟨h1, h2, h3⟩ := h
  refine ⟨fun j => ?_, fun j => ?_, h3.up (Or.inl rfl)⟩
  · by_cases z : j = k
    · subst z
      rw [if_pos rfl]
      exact oUp_self
    · rw [if_neg z]
      refine (oUp_j z).trans ?_
      rw [show M1 38 0 j = _ from h1 j, if_neg z]
  · rw [oUp_k (by decide)]
    exact h2 j
theorem oWr_y {M M1 : oM} {k : Nat} {X Y Y' : Int32} (h : oWr M M1 k X Y) : oWr M (oUp M1 39 0 k Y') k X Y' := by
  obtain ⟨h1, h2, h3⟩ := h
  refine ⟨fun j => ?_, fun j => ?_, h3.up (Or.inr rfl)⟩
  · rw [oUp_k (by decide)]
    exact h1 j
  · by_cases z : j = k
    · subst z
      rw [if_pos rfl]
      exact oUp_self
    · rw [if_neg z]
      refine (oUp_j z).trans ?_
      rw [show M1 39 0 j = _ from h2 j, if_neg z]
theorem oWr_rf (M : oM) (k : Nat) : oWr M M k (M K_M_cornerX 0 k) (M K_M_cornerY 0 k) := by
  refine ⟨fun j => ?_, fun j => ?_, oFr.rf⟩
  · by_cases z : j = k
    · rw [if_pos z, z]
    · rw [if_neg z]
  · by_cases z : j = k
    · rw [if_pos z, z]
    · rw [if_neg z]
def sMst (M : oM) (N : Nat → Int32) (k : Nat) (nd ch : Int32) : Int32 × Int32 := sStep N (M K_M_cornerX 0 0) (M K_M_cornerY 0 0) nd ch (M K_M_kinds 0 k) (M K_M_ways 0 k) (M K_M_lengths 0 k) (M K_M_cornerX 0 k) (M K_M_cornerY 0 k)
theorem sStep_no {N : Nat → Int32} {bx b2 nd ch kind way len x y : Int32} (h : ¬ (kind = 3 ∧ ¬ f_Oak_isWithin (len - 1) 0 (N 1 - 1) = 0)) : (if kind = 2 then (bx, b2) else if kind = 4 then ((x + bx) / 2, (y + b2) / 2) else (x + f_Mod_trueBy len ch * f_Mod_acrossBy (sW nd kind way), y + f_Mod_trueBy len ch * f_Mod_upBy (sW nd kind way))) = sStep N bx b2 nd ch kind way len x y := by
  unfold sStep
  rw [in_eq, if_neg h]
theorem sStep_st {N : Nat → Int32} {bx b2 nd ch kind way len x y : Int32} {s : Nat} (h : kind = 3) (h2 : ¬ f_Oak_isWithin (len - 1) 0 (N 1 - 1) = 0) (hs : s < 8) (es : len - 1 = nI s) : (if kind = 2 then (bx, b2) else if kind = 4 then ((x + bx) / 2, (y + b2) / 2) else (N (4 + 2 * s), N (4 + 2 * s + 1))) = sStep N bx b2 nd ch kind way len x y := by
  unfold sStep
  rw [in_eq, if_pos (show kind = 3 ∧ ¬ f_Oak_isWithin (len - 1) 0 (N 1 - 1) = 0 from ⟨h, h2⟩), es, nIc (by omega), h, if_neg (by decide), if_neg (by decide)]
set_option maxRecDepth 4000 in
theorem c_Mod_walk (M : oM) (N : Nat → Int32) (k : Nat) (nd ch : Int32) (hn : M K_M_now 0 = N) (hN : oNOk N) (hk : k < 10) : oCt 2 k_Mod_walk [.inr (K_MOD, 0), .inl (nI k), .inl nd, .inl ch] M (fun r M' => r = none ∧ oWr M M' (k + 1) (sMst M N k nd ch).1 (sMst M N k nd ch).2) := by
  obtain ⟨hS, hS8⟩ := oNS hN
  refine oCt.of (ls := [some (.inr (K_MOD, 0)), some (.inl (nI k)), some (.inl nd), some (.inl ch), none, none, none, none, none, none]) mok_Mod_walk rfl rfl ?_
  generalize hQ : (fun (r : Option Int32) (M' : oM) => r = none ∧ oWr M M' (k + 1) (sMst M N k nd ch).1 (sMst M N k nd ch).2) = Q
  have fin : ∀ M1 X Y, oWr M M1 (k + 1) X Y → sMst M N k nd ch = (X, Y) → Q none M1 := by
    intro M1 X Y h1 h2
    rw [← hQ]
    refine ⟨rfl, ?_⟩
    rw [h2]
    exact h1
  refine oRun_ok 3 rfl ?_
  refine g_iald k rfl rfl rfl (by omega) ?_
  refine oRun_ok 4 rfl ?_
  refine g_iald k rfl rfl rfl (by omega) ?_
  refine oRun_ok 4 rfl ?_
  refine g_iald k rfl rfl rfl (by omega) ?_
  refine oRun_ok 3 rfl ?_
  unfold sMst at fin
  generalize hkd : M K_M_kinds 0 k = kd at fin
  generalize hwy : M K_M_ways 0 k = wy at fin
  generalize hln : M K_M_lengths 0 k = ln at fin
  generalize hx : M K_M_cornerX 0 k = x at fin
  generalize hy : M K_M_cornerY 0 k = y at fin
  generalize hbx : M K_M_cornerX 0 0 = bx at fin
  generalize hby : M K_M_cornerY 0 0 = b2 at fin
  -- at the end
  have tail : ∀ (M1 : oM) (X Y : Int32) (x7 x8 x9 : Option oV), oWr M M1 (k + 1) X Y → (if kd = 2 then (bx, b2) else if kd = 4 then ((x + bx) / 2, (y + b2) / 2) else (X, Y)) = sStep N bx b2 nd ch kd wy ln x y → oG k_Mod_walk 2 203 [some (.inr (K_MOD, 0)), some (.inl (nI k)), some (.inl nd), some (.inl ch), some (.inl x), some (.inl y), some (.inl kd), x7, x8, x9] [] M1 Q := by
    intro M1 X Y x7 x8 x9 hw he
    have z1 : ∀ {M2 : oM} {X Y : Int32}, oWr M M2 (k + 1) X Y → M2 38 0 0 = bx := fun {M2 X Y} h => by
      rw [show M2 38 0 0 = _ from h.1 0, if_neg (by omega)]
      exact hbx
    have z2 : ∀ {M2 : oM} {X Y : Int32}, oWr M M2 (k + 1) X Y → M2 39 0 0 = b2 := fun {M2 X Y} h => by
      rw [show M2 39 0 0 = _ from h.2.1 0, if_neg (by omega)]
      exact hby
    have two : (kd = 2 ∨ kd = 4) → oG k_Mod_walk 2 215 [some (.inr (K_MOD, 0)), some (.inl (nI k)), some (.inl nd), some (.inl ch), some (.inl x), some (.inl y), some (.inl kd), x7, x8, x9] [] M1 Q := by
      intro _
      have put2 : ∀ (M2 : oM) (X' Y' Y0 : Int32), oWr M M2 (k + 1) X' Y0 → sStep N bx b2 nd ch kd wy ln x y = (X', Y') → oG k_Mod_walk 2 282 [some (.inr (K_MOD, 0)), some (.inl (nI k)), some (.inl nd), some (.inl ch), some (.inl x), some (.inl y), some (.inl kd), x7, x8, x9] [.inl Y', .inl (nI k + 1), .inr (K_M_cornerY, 0)] M2 Q := by
        intro M2 X' Y' Y0 hw2 he2
        refine g_iast (k + 1) rfl rfl (nI_1 k) (by omega) ?_
        exact g_ret rfl rfl (fin _ X' Y' (oWr_y hw2) he2)
      have put1 : ∀ (X' Y' : Int32), sStep N bx b2 nd ch kd wy ln x y = (X', Y') → Y' = (if kd = 2 then b2 else (y + b2) / 2) → oG k_Mod_walk 2 248 [some (.inr (K_MOD, 0)), some (.inl (nI k)), some (.inl nd), some (.inl ch), some (.inl x), some (.inl y), some (.inl kd), x7, x8, x9] [.inl X', .inl (nI k + 1), .inr (K_M_cornerX, 0)] M1 Q := by
        intro X' Y' he2 hY
        refine g_iast (k + 1) rfl rfl (nI_1 k) (by omega) ?_
        have hw2 := oWr_x (X' := X') hw
        generalize oUp M1 38 0 (k + 1) X' = M2 at hw2 ⊢
        refine oRun_ok 7 rfl ?_
        refine g_ic_ne rfl (fun h => ?_) (fun h => ?_)
        · refine oRun_ok 4 rfl ?_
          refine g_iald 0 rfl rfl rfl (by decide) ?_
          rw [z2 hw2]
          refine oRun_ok 3 rfl ?_
          rw [if_neg h] at hY
          rw [← hY]
          exact put2 M2 X' Y' Y hw2 he2
        · refine oRun_ok 3 rfl ?_
          refine g_iald 0 rfl rfl rfl (by decide) ?_
          rw [z2 hw2]
          refine oRun_ok 1 rfl ?_
          rw [if_pos (by simpa using h)] at hY
          rw [← hY]
          exact put2 M2 X' Y' Y hw2 he2
      rename_i hk24
      refine oRun_ok 7 rfl ?_
      refine g_ic_ne rfl (fun h => ?_) (fun h => ?_)
      · refine oRun_ok 4 rfl ?_
        refine g_iald 0 rfl rfl rfl (by decide) ?_
        rw [z1 hw]
        refine oRun_ok 3 rfl ?_
        rw [if_neg h, if_pos (hk24.resolve_left h)] at he
        exact put1 _ _ he.symm (by rw [if_neg h])
      · have h : kd = 2 := by simpa using h
        refine oRun_ok 3 rfl ?_
        refine g_iald 0 rfl rfl rfl (by decide) ?_
        rw [z1 hw]
        refine oRun_ok 1 rfl ?_
        rw [if_pos h] at he
        exact put1 _ _ he.symm (by rw [if_pos h])
    refine oRun_ok 2 rfl ?_
    refine g_ic_eq rfl (fun h => two (Or.inl h)) (fun h => ?_)
    refine oRun_ok 2 rfl ?_
    refine g_ic_ne rfl (fun h' => ?_) (fun h' => two (Or.inr (by simpa using h')))
    rw [if_neg h, if_neg h'] at he
    exact g_ret rfl rfl (fin M1 X Y hw he.symm)
  -- from the way on
  have mid : ∀ (x7 x9 : Option oV), oG k_Mod_walk 2 80 [some (.inr (K_MOD, 0)), some (.inl (nI k)), some (.inl nd), some (.inl ch), some (.inl x), some (.inl y), some (.inl kd), x7, none, x9] [.inl (sW nd kd wy)] M Q := by
    intro x7 x9
    refine oRun_ok 4 rfl ?_
    refine g_iald k rfl rfl rfl (by omega) ?_
    rw [show M 37 0 k = ln from hln]
    refine oRun_ok 1 rfl ?_
    refine g_callS rfl rfl rfl rfl mok_Mod_trueBy (by decide) (c_Mod_trueBy M _ _) ?_
    rintro r89 M89 ⟨rfl, e⟩; rw [e]
    refine oRun_ok 9 rfl ?_
    refine g_callS rfl rfl rfl rfl mok_Mod_acrossBy (by decide) (c_Mod_acrossBy M _) ?_
    rintro r107 M107 ⟨rfl, e⟩; rw [e]
    refine oRun_ok 2 rfl ?_
    refine g_iast (k + 1) rfl rfl (nI_1 k) (by omega) ?_
    have w1 := oWr_x (X' := x + f_Mod_trueBy ln ch * f_Mod_acrossBy (sW nd kd wy)) (oWr_rf M (k + 1))
    generalize oUp M 38 0 (k + 1) (x + f_Mod_trueBy ln ch * f_Mod_acrossBy (sW nd kd wy)) = M1 at w1 ⊢
    refine oRun_ok 8 rfl ?_
    refine g_callS rfl rfl rfl rfl mok_Mod_upBy (by decide) (c_Mod_upBy M1 _) ?_
    rintro r126 M126 ⟨rfl, e⟩; rw [e]
    refine oRun_ok 2 rfl ?_
    refine g_iast (k + 1) rfl rfl (nI_1 k) (by omega) ?_
    have w2 := oWr_y (Y' := y + f_Mod_trueBy ln ch * f_Mod_upBy (sW nd kd wy)) w1
    generalize oUp M1 39 0 (k + 1) (y + f_Mod_trueBy ln ch * f_Mod_upBy (sW nd kd wy)) = M2 at w2 ⊢
    have en : M2 32 0 = N := (w2.2.2 K_M_now 0 (by rintro (q | q) <;> exact absurd q (by decide))).trans hn
    have el : M2 37 0 = M K_M_lengths 0 := w2.2.2 K_M_lengths 0 (by rintro (q | q) <;> exact absurd q (by decide))
    refine oRun_ok 2 rfl ?_
    refine g_ic_ne rfl (fun h => ?_) (fun h => ?_)
    · exact tail M2 _ _ _ _ _ w2 (sStep_no (fun q => h q.1))
    · have h : kd = 3 := by simpa using h
      refine oRun_ok 4 rfl ?_
      refine g_iald k rfl rfl rfl (by omega) ?_
      rw [el, hln]
      refine oRun_ok 2 rfl ?_
      refine g_callV rfl rfl rfl rfl rfl mok_Mod_isStone (by decide) (c_Mod_isStone M2 _) ?_
      rintro r147 M147 ⟨rfl, e⟩; rw [e]
      rw [show M2 K_M_now 0 = N from en]
      refine g_if_eq rfl (fun h150 => ?_) (fun h150 => ?_)
      · exact tail M2 _ _ _ _ _ w2 (sStep_no (fun q => q.2 h150))
      · have h150' := h150
        rw [hS] at h150
        obtain ⟨s, hs, es⟩ := wiI (by omega) h150
        have el2 : ln = nI (s + 1) := by rw [← nI_1, ← es, Int32.sub_add_cancel]
        have i1 : 4 + 2 * ln - 2 = nI (4 + 2 * s) := by
          rw [el2, L4, L2, nI_times, nI_plus, nIsub (by omega)]
          congr 1
        have i2 : 4 + 2 * ln - 1 = nI (4 + 2 * s + 1) := by
          rw [el2, L4, L2, L1, nI_times, nI_plus, nIsub (by omega)]
          congr 1
        refine oRun_ok 12 rfl ?_
        refine g_iald k rfl rfl rfl (by omega) ?_
        rw [el, hln]
        refine oRun_ok 4 rfl ?_
        refine g_iald (4 + 2 * s) rfl rfl i1 (by omega) ?_
        rw [en]
        refine g_iast (k + 1) rfl rfl (nI_1 k) (by omega) ?_
        have w3 := oWr_x (X' := N (4 + 2 * s)) w2
        generalize oUp M2 38 0 (k + 1) (N (4 + 2 * s)) = M3 at w3 ⊢
        have en3 : M3 32 0 = N := (w3.2.2 K_M_now 0 (by rintro (q | q) <;> exact absurd q (by decide))).trans hn
        have el3 : M3 37 0 = M K_M_lengths 0 := w3.2.2 K_M_lengths 0 (by rintro (q | q) <;> exact absurd q (by decide))
        refine oRun_ok 12 rfl ?_
        refine g_iald k rfl rfl rfl (by omega) ?_
        rw [el3, hln]
        refine oRun_ok 4 rfl ?_
        refine g_iald (4 + 2 * s + 1) rfl rfl i2 (by omega) ?_
        rw [en3]
        refine g_iast (k + 1) rfl rfl (nI_1 k) (by omega) ?_
        exact tail _ _ _ _ _ _ (oWr_y w3) (sStep_st h h150' (by omega) es)
  have free : ∀ (b : Int32), (b = 0 → ¬ (kd = 1 ∨ kd = 3)) → (¬ b = 0 → (kd = 1 ∨ kd = 3)) → oG k_Mod_walk 2 41 [some (.inr (K_MOD, 0)), some (.inl (nI k)), some (.inl nd), some (.inl ch), some (.inl x), some (.inl y), some (.inl kd), none, none, none] [.inl b] M Q := by
    intro b hb0 hb1
    refine oRun_ok 2 rfl ?_
    refine g_if_eq rfl (fun h => ?_) (fun h => ?_)
    · have hno := hb0 h
      refine oRun_ok 3 rfl ?_
      refine g_iald k rfl rfl rfl (by omega) ?_
      rw [show M 36 0 k = wy from hwy]
      refine oRun_ok 4 rfl ?_
      refine g_ic_ne rfl (fun h5 => ?_) (fun h5 => ?_)
      · refine oRun_ok 1 rfl ?_
        refine oRun_ok 3 rfl ?_
        have := mid (some (.inl b)) none
        unfold sW at this
        rw [if_neg hno, if_neg h5] at this
        exact this
      · refine oRun_ok 2 rfl ?_
        refine oRun_ok 3 rfl ?_
        have := mid (some (.inl b)) none
        unfold sW at this
        rw [if_neg hno, if_pos (by simpa using h5)] at this
        exact this
    · have hyes := hb1 h
      refine oRun_ok 3 rfl ?_
      refine g_iald k rfl rfl rfl (by omega) ?_
      rw [show M 36 0 k = wy from hwy]
      refine oRun_ok 1 rfl ?_
      have := mid (some (.inl b)) none
      unfold sW at this
      rw [if_pos hyes] at this
      exact this
  refine g_ic_eq rfl (fun h => ?_) (fun h => ?_)
  · refine oRun_ok 2 rfl ?_
    exact free 1 (fun q => absurd q (by decide)) (fun _ => Or.inl h)
  · refine oRun_ok 2 rfl ?_
    refine g_ic_ne rfl (fun h' => ?_) (fun h' => ?_)
    · refine oRun_ok 1 rfl ?_
      exact free 0 (fun _ q => q.elim h h') (fun q => absurd rfl q)
    · refine oRun_ok 2 rfl ?_
      exact free 1 (fun q => absurd q (by decide)) (fun _ => Or.inr (by simpa using h'))
