/-! ===== Model: ownerOf ===== -/
theorem c_Mod_ownerOf (M : oM) (c n : Nat) (h2 : M K_M_now 0 2 = nI n) (hn : n ≤ 4) (hc : c < 900) : oCt 0 k_Mod_ownerOf [.inr (K_MOD, 0), .inl (nI c)] M (fun r M' => r = some (oFst (sFst (fun d => tb (M K_M_heldBy 0 c) d) (M K_M_ranks 0) n)) ∧ M' = M) := by
  refine oCt.of (ls := [some (.inr (K_MOD, 0)), some (.inl (nI c)), none, none]) mok_Mod_ownerOf rfl rfl ?_
  refine oRun_ok 4 rfl ?_
  generalize hok : (fun d => tb (M K_M_heldBy 0 c) d) = ok
  generalize hrk : M K_M_ranks 0 = rk
  have loop : ∀ (q d : Nat), d + q = n → oG k_Mod_ownerOf 0 4 [some (.inr (K_MOD, 0)), some (.inl (nI c)), some (.inl (oFst (sFst ok rk d))), some (.inl (nI d))] [] M (fun r M' => r = some (oFst (sFst ok rk n)) ∧ M' = M) := by
    intro q
    induction q with
    | zero =>
      intro d hd
      have hd : d = n := by omega
      subst hd
      refine oRun_ok 4 rfl ?_
      refine g_iald 2 rfl rfl rfl (by decide) ?_
      rw [show M 32 0 2 = nI d from h2]
      refine g_ic_ge rfl (fun _ => ?_) (fun h => absurd (Int32.le_refl _) h)
      refine oRun_ok 1 rfl ?_
      exact g_iret rfl rfl rfl ⟨rfl, rfl⟩
    | succ q ih =>
      intro d hd
      refine oRun_ok 4 rfl ?_
      refine g_iald 2 rfl rfl rfl (by decide) ?_
      rw [show M 32 0 2 = nI n from h2]
      refine g_ic_ge rfl (fun h => ?_) (fun _ => ?_)
      · rw [nIle (by omega) (by omega)] at h
        omega
      refine oRun_ok 3 rfl ?_
      refine g_iald c rfl rfl rfl hc ?_
      refine oRun_ok 5 rfl ?_
      rw [bit_at _ (by omega), show tb (M 40 0 c) d = ok d from by rw [← hok]]
      have fin : ∀ o, oFst (sFst ok rk (d + 1)) = o → oG k_Mod_ownerOf 0 52 [some (.inr (K_MOD, 0)), some (.inl (nI c)), some (.inl (oFst (sFst ok rk d))), some (.inl (nI d))] [.inl o] M (fun r M' => r = some (oFst (sFst ok rk n)) ∧ M' = M) := by
        rintro o rfl
        refine oRun_ok 3 rfl ?_
        rw [nI_1]
        exact ih (d + 1) (by omega)
      have keep : sFst ok rk (d + 1) = sFst ok rk d → oG k_Mod_ownerOf 0 51 [some (.inr (K_MOD, 0)), some (.inl (nI c)), some (.inl (oFst (sFst ok rk d))), some (.inl (nI d))] [] M (fun r M' => r = some (oFst (sFst ok rk n)) ∧ M' = M) := by
        intro h
        refine oRun_ok 1 rfl ?_
        exact fin _ (by rw [h])
      have take : sFst ok rk (d + 1) = some d → oG k_Mod_ownerOf 0 47 [some (.inr (K_MOD, 0)), some (.inl (nI c)), some (.inl (oFst (sFst ok rk d))), some (.inl (nI d))] [] M (fun r M' => r = some (oFst (sFst ok rk n)) ∧ M' = M) := by
        intro h
        refine oRun_ok 2 rfl ?_
        exact fin _ (by rw [h]; rfl)
      refine g_ic_ne rfl (fun h25 => ?_) (fun h25 => ?_)
      · refine keep ?_
        rw [sFst, if_neg (fun z => h25 (by rw [z]; rfl))]
      · have hok' : ok d = true := by
          cases hz : ok d with
          | true => rfl
          | false =>
            rw [hz] at h25
            exact absurd h25 (by decide)
        refine oRun_ok 1 rfl ?_
        refine g_if_lt rfl (fun h29 => ?_) (fun h29 => ?_)
        · refine take ?_
          rw [sFst, if_pos hok']
          cases hz : sFst ok rk d with
          | none => rfl
          | some b =>
            have hb := sFst_b hz
            exfalso
            rw [hz] at h29
            exact nI_pos (by omega) h29
        · cases hz : sFst ok rk d with
          | none =>
            exfalso
            rw [hz] at h29
            exact h29 (by decide)
          | some b =>
            have hb := sFst_b hz
            rw [hz] at take keep
            rw [show oFst (some b) = nI b from rfl] at take keep ⊢
            refine oRun_ok 3 rfl ?_
            refine g_iald d rfl rfl rfl (by omega) ?_
            refine oRun_ok 3 rfl ?_
            refine g_iald b rfl rfl rfl (by omega) ?_
            rw [show M 41 0 = rk from hrk]
            refine g_ic_ge rfl (fun h44 => ?_) (fun h44 => ?_)
            · refine keep ?_
              rw [sFst, if_pos hok', hz]
              show (if rk d < rk b then some d else some b) = some b
              rw [if_neg (fun z => Int32.not_lt.mpr h44 z)]
            · refine take ?_
              rw [sFst, if_pos hok', hz]
              show (if rk d < rk b then some d else some b) = some d
              rw [if_pos (Int32.not_le.mp h44)]
  exact loop n 0 (by omega)
