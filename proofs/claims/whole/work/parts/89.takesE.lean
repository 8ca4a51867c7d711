/-! ## takesE and takesKey -/
theorem tw_all {r : Nat} {K : List Int32} (hK : ∀ x ∈ K, stp r x = true) : K.takeWhile (stp r) = K := by
  have := List.takeWhile_append_of_pos (l₂ := []) hK
  rw [List.append_nil, show ([] : List Int32).takeWhile (stp r) = [] from rfl, List.append_nil] at this
  exact this
def Q_tE (M : oM) (key : Nat) (R : Rs) : Option Int32 → oM → Prop := fun r M' => (R.1 = true ∧ R.2.1.1 = 0 → r = some 1 ∧ M' K_MOD 0 24 = nI R.2.2.1.length ∧ (∀ j, j < R.2.2.1.length → M' K_M_code 0 j = (R.2.2.1.map (trC key)).getD j 0) ∧ M' K_MOD 0 25 = nI R.2.2.2 ∧ M' K_MOD 0 20 = nI key) ∧ (¬ (R.1 = true ∧ R.2.1.1 = 0) → r = some 0 ∧ M' K_MOD 0 16 = nI R.2.1.2.1) ∧ yTf M M'
set_option maxRecDepth 8000 in
theorem c_Mod_takesE (M : oM) (f : Nat → Int32) (n key : Nat) (t : Tk) (h : yMt M f n t) (h96 : n ≤ 96) (hv : Tv f n t) (hk : key < 3) (h20 : M K_MOD 0 20 = nI key) : oCt 3 k_Mod_takesE [.inr (K_MOD, 0)] M (Q_tE M key (pL f n key 62 0 0 0 t)) := by
  refine oCt.of (ls := [some (.inr (K_MOD, 0)), none, none, none, none]) mok_Mod_takesE rfl rfl ?_
  refine oRun_ok 19 rfl ?_
  refine g_zast 0 rfl rfl rfl (by decide) rfl ?_
  generalize hM : oUp (oUp (oUp (oUp M K_MOD 0 24 0) K_MOD 0 25 0) K_MOD 0 27 0) 48 0 0 0 = M1
  have hF : yTf M M1 := by
    rw [← hM]
    exact (((yTf.rf.m (by decide)).m (by decide)).m (by decide)).k (Or.inr (Or.inr rfl))
  have e : ∀ j, ¬ (j = 24 ∨ j = 25 ∨ j = 27) → M1 K_MOD 0 j = M K_MOD 0 j := fun j hj => by
    rw [← hM]
    exact (congrFun (congrFun (oUp_k (by decide)) 0) j).trans ((oUp_j (fun z => hj (Or.inr (Or.inr z)))).trans ((oUp_j (fun z => hj (Or.inr (Or.inl z)))).trans (oUp_j (fun z => hj (Or.inl z)))))
  have hMe : yMe M1 f n key 0 t [] [] (fun _ => false) 0 := by
    obtain ⟨b1, b2, b3, b4, b5, b6, b7, b8⟩ := h
    refine ⟨⟨fun j hj => ?_, (e _ (by decide)).trans b2, (e _ (by decide)).trans b3, (e _ (by decide)).trans b4, (e _ (by decide)).trans b5, fun q => (e _ (by decide)).trans (b6 q), fun q => (e _ (by decide)).trans (b7 q), by rw [e 19 (by decide)]; exact b8⟩, (e _ (by decide)).trans h20, ⟨?_, fun j hj => absurd hj (Nat.not_lt_zero j), ?_, True.intro⟩, ?_, fun j hj => ?_⟩
    · rw [hF.1 K_M_tape 0 (by unfold yTs; decide)]; exact b1 j hj
    · rw [← hM]; rfl
    · rw [← hM]; rfl
    · rw [← hM]; rfl
    · rw [show j = 0 by omega, ← hM]; rfl
  have sim := (sim_all h96 (yKept (M0 := M) (Q := Q_tE M key (pL f n key 62 0 0 0 t)) h96 hk) 62).1 0 0 t [] [] (fun _ => false) 0 (by decide) (by decide) (by decide) hv (fun x hx => by cases hx) (fun _ => rfl) (by decide)
  rw [show nO [] = 0 from rfl] at sim
  have hRv := pL_v (key := key) 62 0 0 0 t hv
  generalize pL f n key 62 0 0 0 t = R at *
  have fin : yP M f n key (Q_tE M key R) true t 0 [] [] (fun _ => false) 0 := by
    by_cases ho : R.1 = true
    rotate_left
    · exact sim.1 (Bool.eq_false_iff.mpr ho) (fun M' h16 hf => ⟨fun z => absurd z.1 ho, fun _ => ⟨rfl, h16⟩, hf⟩)
    refine sim.2 ho (fun c1 K T' e1 hK hA => ?_)
    by_cases h0 : R.2.1.1 = 0
    rotate_left
    · exact k_7 h96 _ _ _ _ _ _ h0 (fun z => absurd z.2 (by decide)) (fun l hl => hA.2.2 l (Nat.zero_le _) hl) (fun M' h16 hf => ⟨fun z => absurd z.2 h0, fun _ => ⟨rfl, h16⟩, hf⟩)
    intro M2 x h2 hv2 hl hp hF2
    rw [List.append_nil] at h2 hl
    rw [List.nil_append] at h2 hl
    have hv21 := hv2.1
    have hK0 : ∀ x ∈ K, stp 0 x = true := fun x hx => stp_mono (by decide) (by decide) (hK x hx).2
    refine e_345 h2.1 h0 ?_
    refine oRun_ok 2 rfl ?_
    refine g_callV rfl rfl rfl rfl rfl mok_Mod_settle (by decide) (c_Msettle M2 f n key 0 0 R.2.1 c1 K T' _ h2 (by decide) (by omega)) ?_
    rintro r M3 ⟨rfl, h3, f3⟩
    rw [tw_all hK0, e1] at h3
    refine oRun_ok 1 rfl ?_
    refine g_if_ne rfl (fun z => absurd rfl z) (fun _ => ?_)
    refine oRun_ok 2 rfl ?_
    have c1' := h3.2.2.1.1
    have c2' := h3.2.2.1.2.1
    rw [List.length_map] at c1' c2'
    exact g_iret rfl rfl rfl ⟨fun _ => ⟨rfl, c1', c2', by have := h3.2.2.2.1; rw [Nat.zero_add] at this; exact this, h3.2.1⟩, fun z => absurd ⟨ho, h0⟩ z, hF2.tr f3⟩
  exact fin M1 none hMe hv (Nat.zero_le _) (by decide) hF
def yKA : Nat → Nat := fun i => ([0, 6, 11, 16] : List Nat).getD i 0
theorem yKA_ok : ∀ i, i < 3 → yKA (i + 1) - yKA i = oSL.getD i 0 ∧ yKA i ≤ yKA (i + 1) ∧ yKA (i + 1) ≤ 16 ∧ ∀ j, j < oSL.getD i 0 → oKeys.getD (yKA i + j) 0 = (oSB.getD i []).getD j 0 := by decide
theorem c_Mod_takesKey (M : oM) (f : Nat → Int32) (n : Nat) (t : Tk) (h : yMt M f n t) (h96 : n ≤ 96) (hv : Tv f n t) (hc : I_con M) : oCt 2 k_Mod_takesKey [.inr (K_MOD, 0)] M (fun r M' => (kH f t < 3 → r = some 1 ∧ M' K_MOD 0 20 = nI (kH f t) ∧ yMt M' f n (nxT f n t)) ∧ (¬ kH f t < 3 → r = some 0 ∧ M' = M) ∧ yTf M M') := by
  have h4 := hv.2.2.1
  have hk3 : (∀ i, i < 3 → ¬ isW f t i) → kH f t = 3 := fun z => by
    unfold kH
    exact (if_neg (z 0 (by decide))).trans ((if_neg (z 1 (by decide))).trans (if_neg (z 2 (by decide))))
  have hki : ∀ i, i < 3 → (∀ i', i' < i → ¬ isW f t i') → isW f t i → kH f t = i := fun i hi z y => by
    unfold kH
    match i, hi with
    | 0, _ => exact if_pos y
    | 1, _ => exact (if_neg (z 0 (by decide))).trans (if_pos y)
    | 2, _ => exact (if_neg (z 0 (by decide))).trans ((if_neg (z 1 (by decide))).trans (if_pos y))
  have at' : ∀ i, i < 4 → M 45 0 i = nI (yKA i) := fun i hi => by
    match i, hi with
    | 0, _ => exact hc.2.1
    | 1, _ => exact hc.2.2.1
    | 2, _ => exact hc.2.2.2.1
    | 3, _ => exact hc.2.2.2.2
  refine oCt.of (ls := [some (.inr (K_MOD, 0)), none, none, none, none]) mok_Mod_takesKey rfl rfl ?_
  refine oRun_ok 3 rfl ?_
  rw [show M 31 0 17 = _ from h.2.2.2.2.1]
  refine g_ic_eq rfl (fun z => ?_) (fun z => ?_)
  rotate_left
  · have z : ¬ nI t.1 = nI 1 := z
    rw [nIe (by omega) (by omega)] at z
    have e3 := hk3 (fun i _ y => z y.1)
    refine oRun_ok 1 rfl ?_
    exact g_iret rfl rfl rfl ⟨fun y => absurd e3 (by omega), fun _ => ⟨rfl, rfl⟩, yTf.rf⟩
  have z : nI t.1 = nI 1 := z
  rw [nIe (by omega) (by omega)] at z
  obtain ⟨a1, a2⟩ := hv.2.2.2.2.1 (by omega)
  have a3 := hv.2.1
  refine oRun_ok 2 rfl ?_
  have loop : ∀ (q i : Nat) (x2 x3 x4 : Option oV), i + q = 3 → (∀ i', i' < i → ¬ isW f t i') → oG k_Mod_takesKey 2 12 [some (.inr (K_MOD, 0)), some (.inl (nI i)), x2, x3, x4] [] M (fun r M' => (kH f t < 3 → r = some 1 ∧ M' K_MOD 0 20 = nI (kH f t) ∧ yMt M' f n (nxT f n t)) ∧ (¬ kH f t < 3 → r = some 0 ∧ M' = M) ∧ yTf M M') := by
    intro q
    induction q with
    | zero =>
      intro i x2 x3 x4 hi hw
      have e3 := hk3 (fun i' hi' => hw i' (by omega))
      refine oRun_ok 2 rfl ?_
      refine g_ic_ge rfl (fun _ => ?_) (fun y => absurd ((nIle (a := 3) (by omega) (by omega)).mpr (by omega)) y)
      refine oRun_ok 1 rfl ?_
      exact g_iret rfl rfl rfl ⟨fun y => absurd e3 (by omega), fun _ => ⟨rfl, rfl⟩, yTf.rf⟩
    | succ q ih =>
      intro i x2 x3 x4 hi hw
      obtain ⟨k1, k2, k4, k3⟩ := yKA_ok i (by omega)
      have h8 := oSL_8 i (by omega)
      have next : ∀ (x2 x4 : Option oV), ¬ isW f t i → oG k_Mod_takesKey 2 106 [some (.inr (K_MOD, 0)), some (.inl (nI i)), x2, some (.inl 0), x4] [] M (fun r M' => (kH f t < 3 → r = some 1 ∧ M' K_MOD 0 20 = nI (kH f t) ∧ yMt M' f n (nxT f n t)) ∧ (¬ kH f t < 3 → r = some 0 ∧ M' = M) ∧ yTf M M') := by
        intro x2 x4 hn
        refine oRun_ok 1 rfl ?_
        refine g_if_eq rfl (fun _ => ?_) (fun y => absurd rfl y)
        refine oRun_ok 2 rfl ?_
        rw [nI_1]
        refine ih (i + 1) _ _ _ (by omega) (fun i' hi' => ?_)
        by_cases hii : i' = i
        · rw [hii]; exact hn
        · exact hw i' (by omega)
      have no : ∀ j, ¬ isW f t i → oG k_Mod_takesKey 2 55 [some (.inr (K_MOD, 0)), some (.inl (nI i)), some (.inl (nI (oSL.getD i 0))), some (.inl 0), some (.inl (nI j))] [] M (fun r M' => (kH f t < 3 → r = some 1 ∧ M' K_MOD 0 20 = nI (kH f t) ∧ yMt M' f n (nxT f n t)) ∧ (¬ kH f t < 3 → r = some 0 ∧ M' = M) ∧ yTf M M') := by
        intro j hn
        refine oRun_ok 2 rfl ?_
        refine g_ic_ge rfl (fun _ => next _ _ hn) (fun _ => ?_)
        refine oRun_ok 1 rfl ?_
        exact g_if_eq rfl (fun _ => next _ _ hn) (fun y => absurd rfl y)
      refine oRun_ok 2 rfl ?_
      refine g_ic_ge rfl (fun y => ?_) (fun _ => ?_)
      · have y : nI 3 ≤ nI i := y
        rw [nIle (by omega) (by omega)] at y
        omega
      refine oRun_ok 5 rfl ?_
      rw [nI_1]
      refine g_iald (i + 1) rfl rfl rfl (by omega) ?_
      rw [at' (i + 1) (by omega)]
      refine oRun_ok 3 rfl ?_
      refine g_iald i rfl rfl rfl (by omega) ?_
      rw [at' i (by omega)]
      refine oRun_ok 8 rfl ?_
      rw [nIsub k2, k1, show M 31 0 15 = _ from h.2.2.1, show M 31 0 16 = _ from h.2.2.2.1, nIsub (by omega)]
      refine g_ic_ne rfl (fun y => ?_) (fun y => ?_)
      · rw [nIe (by omega) (by omega)] at y
        refine oRun_ok 4 rfl ?_
        exact no 0 (fun w => y w.2.1.symm)
      rw [nIe (by omega) (by omega)] at y
      refine oRun_ok 5 rfl ?_
      have inner : ∀ (q j : Nat), j + q = oSL.getD i 0 → (∀ j', j' < j → f (t.2.1 + j') = (oSB.getD i []).getD j' 0) → oG k_Mod_takesKey 2 55 [some (.inr (K_MOD, 0)), some (.inl (nI i)), some (.inl (nI (oSL.getD i 0))), some (.inl 1), some (.inl (nI j))] [] M (fun r M' => (kH f t < 3 → r = some 1 ∧ M' K_MOD 0 20 = nI (kH f t) ∧ yMt M' f n (nxT f n t)) ∧ (¬ kH f t < 3 → r = some 0 ∧ M' = M) ∧ yTf M M') := by
        intro q
        induction q with
        | zero =>
          intro j hj hb
          have hW : isW f t i := ⟨z, y.symm, fun j' hj' => hb j' (by omega)⟩
          have ek := hki i (by omega) hw hW
          refine oRun_ok 2 rfl ?_
          refine g_ic_ge rfl (fun _ => ?_) (fun u => absurd ((nIle (by omega) (by omega)).mpr (by omega)) u)
          refine oRun_ok 1 rfl ?_
          refine g_if_eq rfl (fun u => absurd u (by decide)) (fun _ => ?_)
          refine oRun_ok 4 rfl ?_
          have hT1 : yMt (oUp M 31 0 20 (nI i)) f n t := by
            obtain ⟨b1, b2, b3, b4, b5, b6, b7, b8⟩ := h
            exact ⟨fun j hj => by rw [oUp_k (by decide)]; exact b1 j hj, (oUp_j (by decide)).trans b2, (oUp_j (by decide)).trans b3, (oUp_j (by decide)).trans b4, (oUp_j (by decide)).trans b5, fun q => (oUp_j (by decide)).trans (b6 q), fun q => (oUp_j (by decide)).trans (b7 q), by rw [show oUp M 31 0 20 (nI i) K_MOD 0 19 = M K_MOD 0 19 from oUp_j (by decide)]; exact b8⟩
          refine g_callV rfl rfl rfl rfl rfl mok_Mod_go (by decide) (go_t _ f n t hT1 h96 a3 (fun u => absurd u (by omega)) (Or.inl z)) ?_
          rintro r M2 ⟨rfl, q1, q2, q3⟩
          refine oRun_ok 1 rfl ?_
          refine g_iret rfl rfl rfl ⟨fun _ => ⟨rfl, (q2 20 (by decide)).trans (by rw [ek]; exact oUp_self), q1⟩, fun u => absurd ek (by omega), ?_⟩
          exact (yTf.rf.m (M := M) (v := nI i) (j := 20) (by decide)).tr ⟨q3.mono (fun k i z => Or.inl z), fun j hj => q2 j (by omega)⟩
        | succ q ih2 =>
          intro j hj hb
          refine oRun_ok 2 rfl ?_
          refine g_ic_ge rfl (fun u => ?_) (fun _ => ?_)
          · rw [nIle (by omega) (by omega)] at u
            omega
          refine oRun_ok 1 rfl ?_
          refine g_if_eq rfl (fun u => absurd u (by decide)) (fun _ => ?_)
          refine oRun_ok 6 rfl ?_
          rw [show M 31 0 16 = _ from h.2.2.2.1, nI_plus]
          refine g_iald (t.2.1 + j) rfl rfl rfl (by omega) ?_
          rw [show M 43 0 (t.2.1 + j) = _ from h.1 _ (by omega)]
          refine oRun_ok 5 rfl ?_
          refine g_iald i rfl rfl rfl (by omega) ?_
          rw [at' i (by omega)]
          refine oRun_ok 2 rfl ?_
          rw [nI_plus]
          refine g_cald (yKA i + j) rfl rfl rfl (by omega) ?_
          rw [show M 44 0 (yKA i + j) = _ from hc.1 (yKA i + j) (by omega), k3 j (by omega)]
          refine g_ic_ne rfl (fun u => ?_) (fun u => ?_)
          · refine oRun_ok 4 rfl ?_
            rw [nI_1]
            exact no (j + 1) (fun w => u (w.2.2 j (by omega)))
          · refine oRun_ok 5 rfl ?_
            rw [nI_1]
            refine ih2 (j + 1) (by omega) (fun j' hj' => ?_)
            by_cases hjj : j' = j
            · rw [hjj]; exact u
            · exact hb j' (by omega)
      exact inner (oSL.getD i 0) 0 (by omega) (fun j' hj' => absurd hj' (Nat.not_lt_zero j'))
  exact loop 3 0 _ _ _ (by omega) (fun i' hi' => absurd hi' (Nat.not_lt_zero i'))

