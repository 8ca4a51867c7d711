/-! ===== Model: isHeld, the walk ===== -/
theorem par_add {c : Nat} {b h : Bool} (hp : c % 2 = 1 ↔ h = true) : (c + (if b = true then 1 else 0)) % 2 = 1 ↔ Bool.xor h b = true := by
  cases b <;> cases h <;> simp at hp ⊢ <;> omega
set_option maxRecDepth 4000 in
theorem c_Mod_isHeld (M : oM) (n : Nat) (x y : Int32) (h7 : M K_MOD 0 7 = nI n) (hn10 : n ≤ 10) (hx : inR x 0 29) (hy : inR y 0 29) (hc : ∀ j, j ≤ n → inR (M K_M_cornerX 0 j) (-309) 309 ∧ inR (M K_M_cornerY 0 j) (-309) 309) :
    oCt 0 k_Mod_isHeld [.inr (K_MOD, 0), .inl x, .inl y] M (fun r M' => r = some (bI (sHx (M K_M_cornerX 0) (M K_M_cornerY 0) (n + 1) x.toInt y.toInt (n + 1))) ∧ M' = M) := by
  refine oCt.of (ls := [some (.inr (K_MOD, 0)), some (.inl x), some (.inl y), none, none, none, none, none]) mok_Mod_isHeld rfl rfl ?_
  refine oRun_ok 4 rfl ?_
  generalize hQ : (fun (r : Option Int32) (M' : oM) => r = some (bI (sHx (M K_M_cornerX 0) (M K_M_cornerY 0) (n + 1) x.toInt y.toInt (n + 1))) ∧ M' = M) = Q
  have loop : ∀ (q k c : Nat) (x5 x6 x7 : Option oV), k + q = n + 1 → c ≤ k → (c % 2 = 1 ↔ sHx (M K_M_cornerX 0) (M K_M_cornerY 0) (n + 1) x.toInt y.toInt k = true) → oG k_Mod_isHeld 0 5 [some (.inr (K_MOD, 0)), some (.inl x), some (.inl y), some (.inl (nI c)), some (.inl (nI k)), x5, x6, x7] [] M Q := by
    intro q
    induction q with
    | zero =>
      intro k c x5 x6 x7 hk hck hp
      have hk : k = n + 1 := by omega
      subst hk
      refine oRun_ok 3 rfl ?_
      rw [show M 31 0 7 = nI n from h7]
      refine g_ic_gt rfl (fun _ => ?_) (fun h => absurd ((nIlt (by omega) (by omega)).mpr (by omega)) h)
      refine oRun_ok 4 rfl ?_
      rw [L2, nIrem (by omega) (by decide) (by decide)]
      refine g_ic_ne rfl (fun h => ?_) (fun h => ?_)
      · refine oRun_ok 1 rfl ?_
        refine g_iret rfl rfl rfl ?_
        rw [← hQ]
        refine ⟨?_, rfl⟩
        have : ¬ c % 2 = 1 := fun z => h (by rw [z]; rfl)
        cases hz : sHx (M K_M_cornerX 0) (M K_M_cornerY 0) (n + 1) x.toInt y.toInt (n + 1) with
        | false => rfl
        | true => exact absurd (hp.mpr hz) this
      · refine oRun_ok 2 rfl ?_
        refine g_iret rfl rfl rfl ?_
        rw [← hQ]
        refine ⟨?_, rfl⟩
        have h : nI (c % 2) = nI 1 := h
        have : c % 2 = 1 := (nIe (by omega) (by omega)).mp h
        rw [hp.mp this]
        rfl
    | succ q ih =>
      intro k c x5 x6 x7 hk hck hp
      refine oRun_ok 3 rfl ?_
      rw [show M 31 0 7 = nI n from h7]
      refine g_ic_gt rfl (fun h => ?_) (fun _ => ?_)
      · rw [nIlt (by omega) (by omega)] at h
        omega
      have from31 : ∀ (o : Nat), o ≤ n → (if k + 1 = n + 1 then 0 else k + 1) = o → oG k_Mod_isHeld 0 31 [some (.inr (K_MOD, 0)), some (.inl x), some (.inl y), some (.inl (nI c)), some (.inl (nI k)), x5, x6, x7] [.inl (nI o)] M Q := by
        intro o ho heo
        obtain ⟨k1, k2⟩ := hc k (by omega)
        obtain ⟨o1, o2⟩ := hc o ho
        have step : sHx (M K_M_cornerX 0) (M K_M_cornerY 0) (n + 1) x.toInt y.toInt (k + 1) = Bool.xor (sHx (M K_M_cornerX 0) (M K_M_cornerY 0) (n + 1) x.toInt y.toInt k) (sOne (M K_M_cornerX 0 k).toInt (M K_M_cornerY 0 k).toInt (M K_M_cornerX 0 o).toInt (M K_M_cornerY 0 o).toInt x.toInt y.toInt) := by
          rw [← heo]
          rfl
        have so := sOne_eq (M K_M_cornerX 0 k).toInt (M K_M_cornerY 0 k).toInt (M K_M_cornerX 0 o).toInt (M K_M_cornerY 0 o).toInt x.toInt y.toInt
        obtain ⟨tA, tR⟩ := oAtM_t k1 k2 o1 o2 hx hy
        rw [← tA, ← tR] at so
        have fin : ∀ (b : Bool) (v6 v7 : Option oV), sOne (M K_M_cornerX 0 k).toInt (M K_M_cornerY 0 k).toInt (M K_M_cornerX 0 o).toInt (M K_M_cornerY 0 o).toInt x.toInt y.toInt = b → oG k_Mod_isHeld 0 168 [some (.inr (K_MOD, 0)), some (.inl x), some (.inl y), some (.inl (nI (c + (if b = true then 1 else 0)))), some (.inl (nI k)), some (.inl (nI o)), v6, v7] [] M Q := by
          intro b v6 v7 hb
          refine oRun_ok 2 rfl ?_
          rw [nI_1]
          refine ih (k + 1) _ _ _ _ (by omega) (by split <;> omega) ?_
          rw [step, hb]
          exact par_add hp
        generalize hck' : M K_M_cornerX 0 k = px at *
        generalize hdk' : M K_M_cornerY 0 k = p2 at *
        generalize hco' : M K_M_cornerX 0 o = qx at *
        generalize hdo' : M K_M_cornerY 0 o = q2 at *
        refine oRun_ok 4 rfl ?_
        refine g_iald o rfl rfl rfl (by omega) ?_
        refine oRun_ok 3 rfl ?_
        refine g_iald k rfl rfl rfl (by omega) ?_
        rw [show M 39 0 k = p2 from hdk', show M 39 0 o = q2 from hdo']
        refine oRun_ok 5 rfl ?_
        refine g_iald k rfl rfl rfl (by omega) ?_
        rw [show M 39 0 k = p2 from hdk']
        refine oRun_ok 1 rfl ?_
        have t0 : (0 : Int32).toInt = 0 := rfl
        have at85 : ¬ (p2.toInt ≤ y.toInt ↔ q2.toInt ≤ y.toInt) → oG k_Mod_isHeld 0 85 [some (.inr (K_MOD, 0)), some (.inl x), some (.inl y), some (.inl (nI c)), some (.inl (nI k)), some (.inl (nI o)), some (.inl (q2 - p2)), x7] [] M Q := by
          intro hne
          refine oRun_ok 9 rfl ?_
          refine g_iald k rfl rfl rfl (by omega) ?_
          refine oRun_ok 5 rfl ?_
          refine g_iald o rfl rfl rfl (by omega) ?_
          refine oRun_ok 3 rfl ?_
          refine g_iald k rfl rfl rfl (by omega) ?_
          refine oRun_ok 6 rfl ?_
          refine g_iald k rfl rfl rfl (by omega) ?_
          rw [show M 39 0 k = p2 from hdk', show M 38 0 k = px from hck', show M 38 0 o = qx from hco']
          refine oRun_ok 13 rfl ?_
          show oG k_Mod_isHeld 0 140 [some (.inr (K_MOD, 0)), some (.inl x), some (.inl y), some (.inl (nI c)), some (.inl (nI k)), some (.inl (nI o)), some (.inl (q2 - p2)), some (.inl (oAtM px p2 qx q2 x y))] [.inl (q2 - p2), .inl (nI c)] M Q
          generalize oAtM px p2 qx q2 x y = av at so ⊢
          generalize q2 - p2 = rv at so ⊢
          have join : ∀ b : Bool, sOne px.toInt p2.toInt qx.toInt q2.toInt x.toInt y.toInt = b → oG k_Mod_isHeld 0 166 [some (.inr (K_MOD, 0)), some (.inl x), some (.inl y), some (.inl (nI c)), some (.inl (nI k)), some (.inl (nI o)), some (.inl rv), some (.inl av)] [.inl (nI (if b = true then 1 else 0)), .inl (nI c)] M Q := by
            intro b hb
            refine oRun_ok 2 rfl ?_
            rw [nI_plus]
            exact fin b _ _ hb
          refine g_if_le rfl (fun h140 => ?_) (fun h140 => ?_)
          · have r0 := iLe.mp h140
            rw [t0] at r0
            refine oRun_ok 1 rfl ?_
            refine g_if_ge rfl (fun h158 => ?_) (fun h158 => ?_)
            · have a0 := iLe.mp h158
              rw [t0] at a0
              refine oRun_ok 1 rfl ?_
              refine join false ?_
              rw [Bool.eq_false_iff, ne_eq, so]
              rintro ⟨-, ⟨z1, -⟩ | ⟨-, z2⟩⟩ <;> omega
            · have a0 := iLt.mp (Int32.not_le.mp h158)
              rw [t0] at a0
              refine oRun_ok 2 rfl ?_
              exact join true (so.mpr ⟨hne, Or.inr ⟨by omega, a0⟩⟩)
          · have r0 := iLt.mp (Int32.not_le.mp h140)
            rw [t0] at r0
            refine oRun_ok 1 rfl ?_
            refine g_if_le rfl (fun h145 => ?_) (fun h145 => ?_)
            · have a0 := iLe.mp h145
              rw [t0] at a0
              refine oRun_ok 2 rfl ?_
              refine join false ?_
              rw [Bool.eq_false_iff, ne_eq, so]
              rintro ⟨-, ⟨-, z1⟩ | ⟨z2, -⟩⟩ <;> omega
            · have a0 := iLt.mp (Int32.not_le.mp h145)
              rw [t0] at a0
              refine oRun_ok 2 rfl ?_
              exact join true (so.mpr ⟨hne, Or.inl ⟨r0, a0⟩⟩)
        have skip : (p2.toInt ≤ y.toInt ↔ q2.toInt ≤ y.toInt) → oG k_Mod_isHeld 0 168 [some (.inr (K_MOD, 0)), some (.inl x), some (.inl y), some (.inl (nI c)), some (.inl (nI k)), some (.inl (nI o)), some (.inl (q2 - p2)), x7] [] M Q := by
          intro he
          exact fin false _ _ (by
            rw [Bool.eq_false_iff, ne_eq, so]
            rintro ⟨z, -⟩
            exact z he)
        have from66 : ∀ b : Bool, (b = true ↔ p2.toInt ≤ y.toInt) → oG k_Mod_isHeld 0 66 [some (.inr (K_MOD, 0)), some (.inl x), some (.inl y), some (.inl (nI c)), some (.inl (nI k)), some (.inl (nI o)), some (.inl (q2 - p2)), x7] [.inl (bI b)] M Q := by
          intro b hb
          refine oRun_ok 3 rfl ?_
          refine g_iald o rfl rfl rfl (by omega) ?_
          rw [show M 39 0 o = q2 from hdo']
          refine oRun_ok 1 rfl ?_
          have from82 : ∀ b' : Bool, (b' = true ↔ q2.toInt ≤ y.toInt) → oG k_Mod_isHeld 0 82 [some (.inr (K_MOD, 0)), some (.inl x), some (.inl y), some (.inl (nI c)), some (.inl (nI k)), some (.inl (nI o)), some (.inl (q2 - p2)), x7] [.inl (bI b'), .inl (bI b)] M Q := by
            intro b' hb'
            refine g_ic_eq rfl (fun h => ?_) (fun h => ?_)
            · refine skip ?_
              rw [← hb, ← hb']
              cases b <;> cases b' <;> first | exact Iff.rfl | exact absurd h (by decide)
            · refine at85 ?_
              rw [← hb, ← hb']
              cases b <;> cases b' <;> first | exact absurd rfl h | decide
          refine g_ic_gt rfl (fun h => ?_) (fun h => ?_)
          · refine oRun_ok 1 rfl ?_
            exact from82 false (by have := iLt.mp h; constructor <;> intro z <;> first | cases z | omega)
          · refine oRun_ok 2 rfl ?_
            exact from82 true ⟨fun _ => iLe.mp (Int32.not_lt.mp h), fun _ => rfl⟩
        refine g_ic_gt rfl (fun h => ?_) (fun h => ?_)
        · refine oRun_ok 1 rfl ?_
          exact from66 false (by have := iLt.mp h; constructor <;> intro z <;> first | cases z | omega)
        · refine oRun_ok 2 rfl ?_
          exact from66 true ⟨fun _ => iLe.mp (Int32.not_lt.mp h), fun _ => rfl⟩
      refine oRun_ok 3 rfl ?_
      rw [show M 31 0 7 = nI n from h7]
      refine g_ic_ne rfl (fun h => ?_) (fun h => ?_)
      · have hkn : ¬ k = n := fun z => h (by rw [z])
        refine oRun_ok 3 rfl ?_
        rw [nI_1]
        exact from31 (k + 1) (by omega) (if_neg (by omega))
      · have hkn : k = n := (nIe (by omega) (by omega)).mp h
        refine oRun_ok 2 rfl ?_
        exact from31 0 (by omega) (if_pos (by omega))
  exact loop (n + 1) 0 0 _ _ _ (by omega) (by omega) (by
    constructor
    · intro z
      exact absurd z (by decide)
    · intro z
      cases z)
