/-! ===== Model: corners ===== -/
theorem sCor_congr {N : Nat → Int32} {bx b2 nd ch : Int32} {ka wa la ka' wa' la' : Nat → Int32} : ∀ {k : Nat}, (∀ j, j < k → ka j = ka' j ∧ wa j = wa' j ∧ la j = la' j) → sCor N bx b2 nd ch ka wa la k = sCor N bx b2 nd ch ka' wa' la' k
  | 0, _ => rfl
  | k + 1, h => by
    rw [sCor, sCor, sCor_congr (fun j hj => h j (by omega)), (h k (by omega)).1, (h k (by omega)).2.1, (h k (by omega)).2.2]
/-- what the model writes when it takes calls -/
def oMt : Nat → Nat → Prop := fun k _ => k = K_MOD ∨ k = K_M_kinds ∨ k = K_M_ways ∨ k = K_M_lengths
def Q_takeCalls (M : oM) (N : Nat → Int32) (d : Nat) : Option Int32 → oM → Prop := fun r M' => r = none ∧ M' K_MOD 0 7 = nI (cC N d) ∧ (∀ j, ¬ j = 7 → M' K_MOD 0 j = M K_MOD 0 j) ∧ (∀ j, j < cC N d → M' K_M_kinds 0 j = kA N d j ∧ M' K_M_ways 0 j = wA N d j ∧ M' K_M_lengths 0 j = lA N d j) ∧ oFr oMt M M'
theorem c_Mod_takeCalls (M : oM) (N : Nat → Int32) (d : Nat) (hn : M K_M_now 0 = N) (hN : oNOk N) (hd : d < cD N) : oCt 1 k_Mod_takeCalls [.inr (K_MOD, 0), .inl (nI d)] M (Q_takeCalls M N d) := by
  obtain ⟨-, d4⟩ := oND hN
  have hDo := hN.2.2.2.2.1 d hd
  obtain ⟨hC, hC10⟩ := oNC hDo
  refine oCt.of (ls := [some (.inr (K_MOD, 0)), some (.inl (nI d)), none]) mok_Mod_takeCalls rfl rfl ?_
  refine oRun_ok 4 rfl ?_
  refine g_callV rfl rfl rfl rfl rfl mok_Mod_of (by decide) (c_Mod_of M d 4 (by omega) (by decide)) ?_
  rintro r4 M4 ⟨rfl, e⟩; rw [e, hn, hC]
  refine oRun_ok 3 rfl ?_
  have loop : ∀ (q k : Nat) (M1 : oM), k + q = cC N d → M1 K_MOD 0 7 = nI (cC N d) → (∀ j, ¬ j = 7 → M1 K_MOD 0 j = M K_MOD 0 j) → (∀ j, j < k → M1 K_M_kinds 0 j = kA N d j ∧ M1 K_M_ways 0 j = wA N d j ∧ M1 K_M_lengths 0 j = lA N d j) → oFr oMt M M1 → oG k_Mod_takeCalls 1 12 [some (.inr (K_MOD, 0)), some (.inl (nI d)), some (.inl (nI k))] [] M1 (Q_takeCalls M N d) := by
    intro q
    induction q with
    | zero =>
      intro k M1 hk h7 ho ha hf
      have hk : k = cC N d := by omega
      subst hk
      refine oRun_ok 3 rfl ?_
      rw [show M1 31 0 7 = nI (cC N d) from h7]
      refine g_ic_ge rfl (fun _ => ?_) (fun h => absurd (Int32.le_refl _) h)
      exact g_ret rfl rfl ⟨rfl, h7, ho, ha, hf⟩
    | succ q ih =>
      intro k M1 hk h7 ho ha hf
      have en : ∀ {M2 : oM}, oFr oMt M M2 → M2 K_M_now 0 = N := fun {M2} h => (h K_M_now 0 (by rintro (q | q | q | q) <;> exact absurd q (by decide))).trans hn
      refine oRun_ok 3 rfl ?_
      rw [show M1 31 0 7 = nI (cC N d) from h7]
      refine g_ic_ge rfl (fun h => ?_) (fun _ => ?_)
      · rw [nIle (by omega) (by omega)] at h
        omega
      refine oRun_ok 7 rfl ?_
      refine g_callV rfl rfl rfl rfl rfl mok_Mod_callOf (by decide) (c_Mod_callOf M1 d k 0 (by omega) (by omega) (by decide)) ?_
      rintro r29 M29 ⟨rfl, e⟩; rw [e, en hf]
      refine g_iast k rfl rfl rfl (by omega) ?_
      have f1 : oFr oMt M (oUp M1 35 0 k (N (20 + 35 * d + 5 + 3 * k + 0))) := hf.up (Or.inr (Or.inl rfl))
      refine oRun_ok 7 rfl ?_
      refine g_callV rfl rfl rfl rfl rfl mok_Mod_callOf (by decide) (c_Mod_callOf _ d k 1 (by omega) (by omega) (by decide)) ?_
      rintro r42 M42 ⟨rfl, e⟩; rw [e, en f1]
      refine g_iast k rfl rfl rfl (by omega) ?_
      have f2 : oFr oMt M (oUp (oUp M1 35 0 k (N (20 + 35 * d + 5 + 3 * k + 0))) 36 0 k (N (20 + 35 * d + 5 + 3 * k + 1))) := f1.up (Or.inr (Or.inr (Or.inl rfl)))
      refine oRun_ok 7 rfl ?_
      refine g_callV rfl rfl rfl rfl rfl mok_Mod_callOf (by decide) (c_Mod_callOf _ d k 2 (by omega) (by omega) (by decide)) ?_
      rintro r55 M55 ⟨rfl, e⟩; rw [e, en f2]
      refine g_iast k rfl rfl rfl (by omega) ?_
      refine oRun_ok 2 rfl ?_
      rw [nI_1]
      refine ih (k + 1) _ (by omega) ?_ (fun j hj => ?_) (fun j hj => ?_) (f2.up (Or.inr (Or.inr (Or.inr rfl))))
      · rw [oUp_k (by decide), oUp_k (by decide), oUp_k (by decide)]
        exact h7
      · rw [oUp_k (by decide), oUp_k (by decide), oUp_k (by decide)]
        exact ho j hj
      · by_cases z : j = k
        · subst z
          refine ⟨?_, ?_, ?_⟩
          · rw [oUp_k (by decide), oUp_k (by decide)]
            exact oUp_self
          · rw [oUp_k (by decide)]
            exact oUp_self
          · exact oUp_self
        · obtain ⟨a1, a2, a3⟩ := ha j (by omega)
          refine ⟨?_, ?_, ?_⟩
          · rw [oUp_k (by decide), oUp_k (by decide)]
            exact (oUp_j z).trans a1
          · rw [oUp_k (by decide)]
            refine (oUp_j z).trans ?_
            rw [oUp_k (by decide)]
            exact a2
          · refine (oUp_j z).trans ?_
            rw [oUp_k (by decide), oUp_k (by decide)]
            exact a3
  refine loop (cC N d) 0 _ (by omega) oUp_self (fun j hj => oUp_j hj) (fun j hj => absurd hj (by omega)) (oFr.rf.up (Or.inl rfl))
/-- the corners by the calls at hand -/
def sMc (M : oM) (N : Nat → Int32) (d : Nat) (nd ch : Int32) : Nat → Int32 × Int32 := sCor N (N (20 + 35 * d)) (N (20 + 35 * d + 1)) nd ch (M K_M_kinds 0) (M K_M_ways 0) (M K_M_lengths 0)
def Q_walks (M : oM) (N : Nat → Int32) (d n : Nat) (nd ch : Int32) : Option Int32 → oM → Prop := fun r M' => r = some (sGapP (N (20 + 35 * d)) (N (20 + 35 * d + 1)) (sMc M N d nd ch n)) ∧ (∀ j, j ≤ n → M' K_M_cornerX 0 j = (sMc M N d nd ch j).1 ∧ M' K_M_cornerY 0 j = (sMc M N d nd ch j).2) ∧ oFr oMw M M'
theorem c_Mod_walks (M : oM) (N : Nat → Int32) (d n : Nat) (nd ch : Int32) (hn : M K_M_now 0 = N) (hN : oNOk N) (hd : d < cD N) (h7 : M K_MOD 0 7 = nI n) (hn10 : n ≤ 10) : oCt 3 k_Mod_walks [.inr (K_MOD, 0), .inl (nI d), .inl nd, .inl ch] M (Q_walks M N d n nd ch) := by
  obtain ⟨-, d4⟩ := oND hN
  have enF : ∀ {M2 : oM}, oFr oMw M M2 → ∀ k, ¬ k = K_M_cornerX → ¬ k = K_M_cornerY → M2 k 0 = M k 0 := fun {M2} h k q1 q2 => h k 0 (fun q => q.elim q1 q2)
  refine oCt.of (ls := [some (.inr (K_MOD, 0)), some (.inl (nI d)), some (.inl nd), some (.inl ch), none]) mok_Mod_walks rfl rfl ?_
  refine oRun_ok 6 rfl ?_
  refine g_callV rfl rfl rfl rfl rfl mok_Mod_of (by decide) (c_Mod_of M d 0 (by omega) (by decide)) ?_
  rintro r8 M8 ⟨rfl, e⟩; rw [e, hn]
  refine g_iast 0 rfl rfl rfl (by decide) ?_
  refine oRun_ok 6 rfl ?_
  refine g_callV rfl rfl rfl rfl rfl mok_Mod_of (by decide) (c_Mod_of _ d 1 (by omega) (by decide)) ?_
  rintro r20 M20 ⟨rfl, e⟩; rw [e, oUp_k (by decide), hn]
  refine g_iast 0 rfl rfl rfl (by decide) ?_
  refine oRun_ok 2 rfl ?_
  have loop : ∀ (q k : Nat) (M1 : oM), k + q = n → (∀ j, j ≤ k → M1 K_M_cornerX 0 j = (sMc M N d nd ch j).1 ∧ M1 K_M_cornerY 0 j = (sMc M N d nd ch j).2) → oFr oMw M M1 → oG k_Mod_walks 3 27 [some (.inr (K_MOD, 0)), some (.inl (nI d)), some (.inl nd), some (.inl ch), some (.inl (nI k))] [] M1 (Q_walks M N d n nd ch) := by
    intro q
    induction q with
    | zero =>
      intro k M1 hk ha hf
      have hk : k = n := by omega
      subst hk
      have e7 : M1 31 0 7 = nI k := by rw [show M1 31 0 = M 31 0 from enF hf K_MOD (by decide) (by decide)]; exact h7
      refine oRun_ok 3 rfl ?_
      rw [e7]
      refine g_ic_ge rfl (fun _ => ?_) (fun h => absurd (Int32.le_refl _) h)
      refine oRun_ok 4 rfl ?_
      rw [e7]
      refine g_iald k rfl rfl rfl (by omega) ?_
      refine oRun_ok 3 rfl ?_
      refine g_iald 0 rfl rfl rfl (by decide) ?_
      refine oRun_ok 1 rfl ?_
      refine g_callS rfl rfl rfl rfl mok_Mod_size (by decide) (c_Mod_size M1 _) ?_
      rintro r66 M66 ⟨rfl, e⟩; rw [e]
      refine oRun_ok 4 rfl ?_
      rw [e7]
      refine g_iald k rfl rfl rfl (by omega) ?_
      refine oRun_ok 3 rfl ?_
      refine g_iald 0 rfl rfl rfl (by decide) ?_
      refine oRun_ok 1 rfl ?_
      refine g_callS rfl rfl rfl rfl mok_Mod_size (by decide) (c_Mod_size M1 _) ?_
      rintro r85 M85 ⟨rfl, e⟩; rw [e]
      refine oRun_ok 1 rfl ?_
      rw [show M1 38 0 k = _ from (ha k (by omega)).1, show M1 39 0 k = _ from (ha k (by omega)).2, show M1 38 0 0 = _ from (ha 0 (by omega)).1, show M1 39 0 0 = _ from (ha 0 (by omega)).2]
      exact g_iret rfl rfl rfl ⟨rfl, ha, hf⟩
    | succ q ih =>
      intro k M1 hk ha hf
      have e7 : M1 31 0 7 = nI n := by rw [show M1 31 0 = M 31 0 from enF hf K_MOD (by decide) (by decide)]; exact h7
      refine oRun_ok 3 rfl ?_
      rw [e7]
      refine g_ic_ge rfl (fun h => ?_) (fun _ => ?_)
      · rw [nIle (by omega) (by omega)] at h
        omega
      refine oRun_ok 4 rfl ?_
      refine g_callV rfl rfl rfl rfl rfl mok_Mod_walk (by decide) (c_Mod_walk M1 N k nd ch ((enF hf K_M_now (by decide) (by decide)).trans hn) hN (by omega)) ?_
      rintro r41 M41 ⟨rfl, w1, w2, w3⟩
      have es : sMst M1 N k nd ch = sMc M N d nd ch (k + 1) := by
        unfold sMst
        rw [(ha 0 (by omega)).1, (ha 0 (by omega)).2, (ha k (by omega)).1, (ha k (by omega)).2, enF hf K_M_kinds (by decide) (by decide), enF hf K_M_ways (by decide) (by decide), enF hf K_M_lengths (by decide) (by decide)]
        rfl
      rw [es] at w1 w2
      refine oRun_ok 2 rfl ?_
      rw [nI_1]
      refine ih (k + 1) M41 (by omega) (fun j hj => ?_) (hf.tr w3)
      rw [w1 j, w2 j]
      by_cases z : j = k + 1
      · rw [if_pos z, if_pos z, z]
        exact ⟨rfl, rfl⟩
      · rw [if_neg z, if_neg z]
        exact ha j (by omega)
  refine loop n 0 _ (by omega) (fun j hj => ?_) ((oFr.rf.up (Or.inl rfl)).up (Or.inr rfl))
  have hj : j = 0 := by omega
  subst hj
  refine ⟨?_, ?_⟩
  · rw [oUp_k (by decide)]
    exact oUp_self
  · exact oUp_self
