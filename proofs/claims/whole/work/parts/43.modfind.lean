/-! ===== Model: findCorners, isHeld ===== -/
/-- what the model writes when it finds corners -/
def oMf : Nat → Nat → Prop := fun k i => oMt k i ∨ oMw k i ∨ oMl k i
theorem oMf_now : ¬ oMf K_M_now 0 := by
  rintro ((q | q | q | q) | (q | q) | (q | q)) <;> exact absurd q (by decide)
/-- only the number of calls at hand changed in the object -/
def oM7 (M M' : oM) : Prop := ∀ j, ¬ j = 7 → M' K_MOD 0 j = M K_MOD 0 j
def Q_find (M : oM) (N : Nat → Int32) (d : Nat) : Option Int32 → oM → Prop := fun r M' => r = some (sGap N d (sNd N d) (sCh N d)) ∧ M' K_MOD 0 7 = nI (cC N d) ∧ oM7 M M' ∧ (∀ j, j ≤ cC N d → M' K_M_cornerX 0 j = (sC N d (sNd N d) (sCh N d) j).1 ∧ M' K_M_cornerY 0 j = (sC N d (sNd N d) (sCh N d) j).2) ∧ (∀ j, j < cC N d → M' K_M_kinds 0 j = kA N d j ∧ M' K_M_ways 0 j = wA N d j ∧ M' K_M_lengths 0 j = lA N d j) ∧ oFr oMf M M'
theorem c_Mod_findCorners (M : oM) (N : Nat → Int32) (d : Nat) (hn : M K_M_now 0 = N) (hN : oNOk N) (hd : d < cD N) : oCt 4 k_Mod_findCorners [.inr (K_MOD, 0), .inl (nI d)] M (Q_find M N d) := by
  have hDo := hN.2.2.2.2.1 d hd
  obtain ⟨hC, hC10⟩ := oNC hDo
  have en : ∀ {M2 : oM}, oFr oMf M M2 → M2 K_M_now 0 = N := fun {M2} h => (h K_M_now 0 oMf_now).trans hn
  refine oCt.of (ls := [some (.inr (K_MOD, 0)), some (.inl (nI d))]) mok_Mod_findCorners rfl rfl ?_
  refine oRun_ok 2 rfl ?_
  refine g_callV rfl rfl rfl rfl rfl mok_Mod_takeCalls (by decide) (c_Mod_takeCalls M N d hn hN hd) ?_
  rintro r2 M2 ⟨rfl, a7, ao, aa, af⟩
  have F2 : oFr oMf M M2 := af.mono (fun k i q => Or.inl q)
  refine oRun_ok 4 rfl ?_
  refine g_callV rfl rfl rfl rfl rfl mok_Mod_needleOf (by decide) (c_Mod_needleOf M2 N d (en F2) hN hd) ?_
  rintro r9 M9 ⟨rfl, f9⟩
  have F9 : oFr oMf M M9 := F2.tr (f9.mono (fun k i q => Or.inr (Or.inr q)))
  refine oRun_ok 2 rfl ?_
  refine g_callV rfl rfl rfl rfl rfl mok_Mod_chainOf (by decide) (c_Mod_chainOf M9 N d (en F9) hN hd) ?_
  rintro r14 M14 ⟨rfl, f14⟩
  have F14 : oFr oMf M M14 := F9.tr (f14.mono (fun k i q => Or.inr (Or.inr q)))
  have g14 : ∀ k, ¬ k = K_M_stack → ¬ k = K_M_facts → M14 k 0 = M2 k 0 := fun k q1 q2 => ((f9.tr f14) k 0 (fun q => q.elim q1 q2))
  refine g_callV rfl rfl rfl rfl rfl mok_Mod_walks (by decide) (c_Mod_walks M14 N d (cC N d) _ _ (en F14) hN hd (by rw [g14 K_MOD (by decide) (by decide)]; exact a7) hC10) ?_
  rintro r17 M17 ⟨rfl, w1, w2⟩
  have g17 : ∀ k, ¬ k = K_M_cornerX → ¬ k = K_M_cornerY → M17 k 0 = M14 k 0 := fun k q1 q2 => (w2 k 0 (fun q => q.elim q1 q2))
  have ec : ∀ j, j ≤ cC N d → sMc M14 N d (sNd N d) (sCh N d) j = sC N d (sNd N d) (sCh N d) j := by
    intro j hj
    unfold sMc sC
    refine sCor_congr (fun i hi => ?_)
    rw [g14 K_M_kinds (by decide) (by decide), g14 K_M_ways (by decide) (by decide), g14 K_M_lengths (by decide) (by decide)]
    exact aa i (by omega)
  refine g_iret rfl rfl rfl ⟨?_, ?_, fun j hj => ?_, fun j hj => ?_, fun j hj => ?_, F14.tr (w2.mono (fun k i q => Or.inr (Or.inl q)))⟩
  · rw [ec _ (Nat.le_refl _)]
    rfl
  · rw [g17 K_MOD (by decide) (by decide), g14 K_MOD (by decide) (by decide)]
    exact a7
  · rw [g17 K_MOD (by decide) (by decide), g14 K_MOD (by decide) (by decide)]
    exact ao j hj
  · rw [← ec j hj]
    exact w1 j hj
  · rw [g17 K_M_kinds (by decide) (by decide), g17 K_M_ways (by decide) (by decide), g17 K_M_lengths (by decide) (by decide), g14 K_M_kinds (by decide) (by decide), g14 K_M_ways (by decide) (by decide), g14 K_M_lengths (by decide) (by decide)]
    exact aa j hj
