/-! ## what a text takes from the reader -/
def oTt (t : Nat) : Nat → Nat → Prop := fun k i => (k = K_TEXT ∨ k = K_TCOD) ∧ i = t
theorem c_Text_takeFrom (M : oM) (f : Nat → Int32) (n key t : Nat) (u : Tk) (C : List Int32) (A : Nat) (h : oRs M f n key u C A) (hC : C.length ≤ 96) (ht : t < 14) : oCt 0 k_Text_takeFrom [.inr (K_TEXT, t), .inr (K_READER, 0)] M (fun r M' => r = none ∧ M' K_TEXT t 0 = nI key ∧ M' K_TEXT t 1 = nI A ∧ M' K_TEXT t 2 = nI C.length ∧ (∀ j, j < C.length → M' K_TCOD t j = C.getD j 0) ∧ oFr (oTt t) M M') := by
  obtain ⟨-, -, -, -, -, h5, h6, h8, hc⟩ := h
  refine oCt.of (ls := [some (.inr (K_TEXT, t)), some (.inr (K_READER, 0)), none]) mok_Text_takeFrom rfl rfl ?_
  refine oRun_ok 14 rfl ?_
  generalize hM : oUp (oUp (oUp M 19 t 0 (M 22 0 5)) 19 t 1 (oUp M 19 t 0 (M 22 0 5) 22 0 6)) 19 t 2 (oUp (oUp M 19 t 0 (M 22 0 5)) 19 t 1 (oUp M 19 t 0 (M 22 0 5) 22 0 6) 22 0 8) = M1
  have a0 : M1 K_TEXT t 0 = nI key := by rw [← hM]; exact (oUp_j (by decide)).trans ((oUp_j (by decide)).trans (oUp_self.trans h5))
  have a1 : M1 K_TEXT t 1 = nI A := by rw [← hM]; exact (oUp_j (by decide)).trans (oUp_self.trans ((congrFun (congrFun (oUp_k (by decide)) 0) 6).trans h6))
  have a2 : M1 K_TEXT t 2 = nI C.length := by rw [← hM]; exact oUp_self.trans ((congrFun (congrFun (oUp_k (by decide)) 0) 8).trans ((congrFun (congrFun (oUp_k (by decide)) 0) 8).trans h8))
  have aR : ∀ j, j < C.length → M1 K_RCOD 0 j = C.getD j 0 := fun j hj => by rw [← hM]; exact (congrFun (congrFun (oUp_k (by decide)) 0) j).trans ((congrFun (congrFun (oUp_k (by decide)) 0) j).trans ((congrFun (congrFun (oUp_k (by decide)) 0) j).trans (hc j hj)))
  have aF : oFr (oTt t) M M1 := by rw [← hM]; exact ((oFr.rf.up ⟨Or.inl rfl, rfl⟩).up ⟨Or.inl rfl, rfl⟩).up ⟨Or.inl rfl, rfl⟩
  have loop : ∀ (q k : Nat) (M2 : oM), k + q = C.length → oFr (oKi K_TCOD t) M1 M2 → (∀ j, j < k → M2 K_TCOD t j = C.getD j 0) → oG k_Text_takeFrom 0 26 [some (.inr (K_TEXT, t)), some (.inr (K_READER, 0)), some (.inl (nI k))] [] M2 (fun r M' => r = none ∧ M' K_TEXT t 0 = nI key ∧ M' K_TEXT t 1 = nI A ∧ M' K_TEXT t 2 = nI C.length ∧ (∀ j, j < C.length → M' K_TCOD t j = C.getD j 0) ∧ oFr (oTt t) M M') := by
    intro q
    induction q with
    | zero =>
      intro k M2 hk hF hj
      have e : M2 K_TEXT t = M1 K_TEXT t := hF _ t (fun z => absurd z.1 (by decide))
      refine oRun_ok 3 rfl ?_
      rw [show M2 19 t 2 = _ from (congrFun e 2).trans a2]
      refine g_ic_ge rfl (fun _ => ?_) (fun z => absurd ((nIle (by omega) (by omega)).mpr (by omega)) z)
      exact g_ret rfl rfl ⟨rfl, by rw [e]; exact a0, by rw [e]; exact a1, by rw [e]; exact a2, fun j hj' => hj j (by omega), aF.tr (hF.mono (fun k i z => ⟨Or.inr z.1, z.2⟩))⟩
    | succ q ih =>
      intro k M2 hk hF hj
      have e : M2 K_TEXT t = M1 K_TEXT t := hF _ t (fun z => absurd z.1 (by decide))
      have e2 : M2 K_RCOD 0 = M1 K_RCOD 0 := hF _ 0 (fun z => absurd z.1 (by decide))
      refine oRun_ok 3 rfl ?_
      rw [show M2 19 t 2 = _ from (congrFun e 2).trans a2]
      refine g_ic_ge rfl (fun z => ?_) (fun _ => ?_)
      · rw [nIle (by omega) (by omega)] at z
        omega
      refine oRun_ok 6 rfl ?_
      refine g_iald k rfl rfl rfl (by omega) ?_
      refine g_iast k rfl rfl rfl (by omega) ?_
      refine oRun_ok 2 rfl ?_
      rw [nI_1]
      refine ih (k + 1) _ (by omega) (hF.up ⟨rfl, rfl⟩) (fun j hj' => ?_)
      by_cases hjk : j = k
      · rw [hjk]; exact oUp_self.trans ((congrFun e2 k).trans (aR k (by omega)))
      · exact (oUp_j hjk).trans (hj j (by omega))
  exact loop C.length 0 M1 (by omega) oFr.rf (fun j hj => absurd hj (Nat.not_lt_zero j))

