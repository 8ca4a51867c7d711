/-! ## text: the model -/
theorem yTf.ps {M M' : oM} (h : yTf M M') : oPs M M' := ⟨fun k hk => h.1 k 0 (fun z => (by decide : ∀ k ∈ oMk, ¬ (k = K_MOD ∨ k = K_M_code ∨ k = K_M_waits ∨ k = K_M_tested)) k hk z), h.2 3 (by decide), h.2 14 (by decide), h.2 40 (by decide)⟩
theorem yTf.mdl {M M' : oM} (h : yTf M M') : oFr oMdl M M' := h.1.mono (fun k i z => show 31 ≤ k ∧ k < 60 from by rcases z with z | z | z | z <;> rw [z] <;> decide)
theorem ps_now {D Mz M' : oM} {N' : Nat → Int32} (h : oPs D Mz) (e : ∀ k, ¬ k = K_M_now → M' k 0 = Mz k 0) (hn : M' K_M_now 0 = N') : oPs (oSR D K_M_now N') M' := by
  refine ⟨fun k hk => ?_, ?_, ?_, ?_⟩
  · by_cases z : k = K_M_now
    · subst z
      rw [oSR_at, hn]
    · rw [oSR_ne z, e k z]
      exact h.1 k hk
  · rw [oSR_ne (by decide), e _ (by decide)]; exact h.2.1
  · rw [oSR_ne (by decide), e _ (by decide)]; exact h.2.2.1
  · rw [oSR_ne (by decide), e _ (by decide)]; exact h.2.2.2
/-- the row while codes are written: k of them -/
def rwT (N : Nat → Int32) (t key : Nat) (L : List Int32) (a k : Nat) : Nat → Int32 := fun j => if j = 160 + 2 * t then nI (1000 * key + L.length) else if j = 160 + 2 * t + 1 then nI a else if 188 + 96 * t ≤ j ∧ j < 188 + 96 * t + k then L.getD (j - (188 + 96 * t)) 0 else N j
set_option maxRecDepth 8000 in
theorem q_text (C D M : oM) (hI : oI C D) (hP : oPs D M) : oCt 4 k_Mod_text [.inr (K_MOD, 0)] M (oQM (s_text D) M) := by
  obtain ⟨n, hn, t1, t2, t3⟩ := hI.tape
  have en : (D K_MOD 0 14).toNatClampNeg = n := by rw [t2, nIc (by omega)]
  obtain ⟨hT, t14⟩ := oNT hI.ok
  have eN : M K_M_now 0 = D K_M_now 0 := hP.1 K_M_now (by decide)
  have eT : M K_M_tape 0 = D K_M_tape 0 := hP.1 K_M_tape (by decide)
  generalize hf : D K_M_tape 0 = f at *
  have hcon : I_con M := hI.con.cg (hP.1 K_M_keys (by decide)) (hP.1 K_M_keyAt (by decide))
  have p40no : ∀ (M5 : oM) (x2 x3 : Option oV), yTf M M5 → M5 K_MOD 0 16 = nI (tAt f n) → ¬ tOk f n → oG k_Mod_text 4 33 [some (.inr (K_MOD, 0)), none, x2, x3] [.inl 0] M5 (oQM (s_text D) M) := by
    intro M5 x2 x3 hF h16 ho
    refine oRun_ok 5 rfl ?_
    refine g_if_ne rfl (fun z => absurd rfl z) (fun _ => ?_)
    refine oRun_ok 4 rfl ?_
    rw [show oUp M5 31 0 14 0 31 0 16 = nI (tAt f n) from (oUp_j (by decide)).trans h16]
    refine g_iret rfl rfl rfl (oQM.of (D' := oUp D K_MOD 0 14 0) ?_ (hP.tr hF.ps).up (hF.mdl.mdl (by decide)))
    have := s_text_no en (by rw [hf]; exact ho)
    rw [hf] at this
    exact this
  refine oCt.of (ls := [some (.inr (K_MOD, 0)), none, none, none]) mok_Mod_text rfl rfl ?_
  refine oRun_ok 7 rfl ?_
  have hx := sSk_le f n 0
  refine g_callV rfl rfl rfl rfl rfl mok_Mod_go (by decide) (c_Mod_go _ f n 3 0 (-1) (fun j _ => by rw [oUp_k (by decide), oUp_k (by decide), eT]) ((oUp_j (by decide)).trans ((oUp_j (by decide)).trans (hP.2.2.1.trans t2))) hn ((oUp_j (by decide)).trans oUp_self) (Nat.zero_le n) oUp_self (fun q => ⟨fun z => ?_, fun z => absurd z.1 (by decide)⟩)) ?_
  · have := iEq.mp z
    rw [nIt (by omega)] at this
    have e1 : (-1 : Int32).toInt = -1 := rfl
    omega
  rintro r M1 ⟨rfl, vl, e', hM, v1, v2, v3, v4⟩
  obtain ⟨m1, m2, m3, m4, m5, m6, m7⟩ := hM
  have hF1 : yTf M M1 := ((yTf.rf.m (by decide)).m (by decide)).tr ⟨m7.mono (fun k i z => Or.inl z), fun j hj => m6 j (by omega)⟩
  have hT1 : yMt M1 f n (tk1 f n) := by
    refine ⟨fun j hj => ?_, (hF1.2 14 (by decide)).trans (hP.2.2.1.trans t2), m1, m2, m3, fun q => m4.trans (v1 q), fun q => m4.trans (v2 q), fun q => m5.trans (v3 q), fun q => Or.inl (m5.trans (v4 q))⟩
    rw [hF1.1 K_M_tape 0 (by unfold yTs; decide), eT]
  have hv1 := tk1_v f n
  refine oRun_ok 1 rfl ?_
  refine g_callV rfl rfl rfl rfl rfl mok_Mod_takesKey (by decide) (c_Mod_takesKey M1 f n (tk1 f n) hT1 hn hv1 (hcon.cg (hF1.ps.1 K_M_keys (by decide)) (hF1.ps.1 K_M_keyAt (by decide)))) ?_
  rintro r M2 ⟨r1, r2, f2⟩
  have hF2 := hF1.tr f2
  by_cases hk : kH f (tk1 f n) < 3
  rotate_left
  · obtain ⟨rfl, e2⟩ := r2 hk
    refine g_if_eq rfl (fun _ => ?_) (fun z => absurd rfl z)
    refine oRun_ok 1 rfl ?_
    refine p40no M2 _ _ hF2 ?_ (fun z => hk z.1)
    unfold tAt
    rw [if_neg hk, e2]
    exact m2
  obtain ⟨rfl, h20, hT2⟩ := r1 hk
  refine g_if_eq rfl (fun z => absurd z (by decide)) (fun _ => ?_)
  refine oRun_ok 1 rfl ?_
  have hv2 := (nxT_v (f := f) (t := tk1 f n) hv1.2.1).1
  refine g_callV rfl rfl rfl rfl rfl mok_Mod_takesE (by decide) (c_Mod_takesE M2 f n _ _ hT2 hn hv2 hk h20) ?_
  rintro r M3 ⟨r1, r2, f3⟩
  have r1 : (tR f n).1 = true ∧ (tR f n).2.1.1 = 0 → r = some 1 ∧ M3 K_MOD 0 24 = nI (tR f n).2.2.1.length ∧ (∀ j, j < (tR f n).2.2.1.length → M3 K_M_code 0 j = (tpC f n).getD j 0) ∧ M3 K_MOD 0 25 = nI (tR f n).2.2.2 ∧ M3 K_MOD 0 20 = nI (kH f (tk1 f n)) := r1
  have r2 : ¬ ((tR f n).1 = true ∧ (tR f n).2.1.1 = 0) → r = some 0 ∧ M3 K_MOD 0 16 = nI (tR f n).2.1.2.1 := r2
  have hF3 := hF2.tr f3
  by_cases ho2 : (tR f n).1 = true ∧ (tR f n).2.1.1 = 0
  rotate_left
  · obtain ⟨rfl, h16⟩ := r2 ho2
    refine g_if_eq rfl (fun _ => ?_) (fun z => absurd rfl z)
    refine oRun_ok 1 rfl ?_
    refine p40no M3 _ _ hF3 ?_ (fun z => ho2 z.2)
    unfold tAt
    rw [if_pos hk]
    exact h16
  obtain ⟨rfl, c24, ccd, c25, c20⟩ := r1 ho2
  have ho : tOk f n := ⟨hk, ho2⟩
  obtain ⟨c1, c2, c3, c4⟩ := tpC_ok hn ho
  rw [← c1] at c24 ccd
  refine g_if_eq rfl (fun z => absurd z (by decide)) (fun _ => ?_)
  refine oRun_ok 7 rfl ?_
  refine g_if_ne rfl (fun _ => ?_) (fun z => absurd z (by decide))
  generalize hMz : oUp M3 31 0 14 0 = Mz
  have psz : oPs (oUp D K_MOD 0 14 0) Mz := by rw [← hMz]; exact (hP.tr hF3.ps).up
  have frz : oFr oMdl M Mz := by rw [← hMz]; exact hF3.mdl.mdl (by decide)
  have nz : Mz K_M_now 0 = D K_M_now 0 := (psz.1 K_M_now (by decide)).trans (by rw [oUp_k (by decide)])
  have n3 : Mz 32 0 3 = nI (cT (D K_M_now 0)) := (congrFun nz 3).trans hT
  have z20 : Mz 31 0 20 = nI (kH f (tk1 f n)) := by rw [← hMz]; exact (oUp_j (by decide)).trans c20
  have z24 : Mz 31 0 24 = nI (tpC f n).length := by rw [← hMz]; exact (oUp_j (by decide)).trans c24
  have z25 : Mz 31 0 25 = nI (tR f n).2.2.2 := by rw [← hMz]; exact (oUp_j (by decide)).trans c25
  have zcd : ∀ j, j < (tpC f n).length → Mz 46 0 j = (tpC f n).getD j 0 := fun j hj => by rw [← hMz, oUp_k (by decide)]; exact ccd j hj
  refine oRun_ok 3 rfl ?_
  refine g_iald 3 rfl rfl rfl (by decide) ?_
  rw [n3]
  refine oRun_ok 1 rfl ?_
  refine g_ic_ne rfl (fun z => ?_) (fun z => ?_)
  rotate_left
  · have z : nI (cT (D K_M_now 0)) = nI 14 := z
    rw [nIe (by omega) (by omega)] at z
    refine oRun_ok 1 rfl ?_
    refine g_iret rfl rfl rfl (oQM.of (D' := oUp D K_MOD 0 14 0) (s_text_full en (by rw [hf]; exact ho) z) psz frz)
  have z : ¬ nI (cT (D K_M_now 0)) = nI 14 := z
  rw [nIe (by omega) (by omega)] at z
  have hs := s_text_ok en (by rw [hf]; exact ho) z
  rw [hf] at hs
  generalize hTT : cT (D K_M_now 0) = t at *
  generalize hKK : kH f (tk1 f n) = key at *
  generalize hLL : tpC f n = L at *
  generalize hAA : (tR f n).2.2.2 = a at *
  have nz : Mz 32 0 = D K_M_now 0 := nz
  generalize D K_M_now 0 = N at *
  refine oRun_ok 3 rfl ?_
  refine g_iald 3 rfl rfl rfl (by decide) ?_
  rw [n3]
  refine oRun_ok 15 rfl ?_
  rw [show Mz K_MOD 0 24 = _ from z24, show Mz K_MOD 0 20 = _ from z20, show (1000 : Int32) = nI 1000 from rfl, show (160 : Int32) = nI 160 from rfl, show (2 : Int32) = nI 2 from rfl]
  simp only [nI_times, nI_plus]
  refine g_iast (160 + 2 * t) rfl rfl rfl (by omega) ?_
  refine oRun_ok 11 rfl ?_
  rw [show oUp Mz 32 0 (160 + 2 * t) (nI (1000 * key + L.length)) K_MOD 0 25 = nI a from z25, show (160 : Int32) = nI 160 from rfl, show (2 : Int32) = nI 2 from rfl, show (1 : Int32) = nI 1 from rfl]
  simp only [nI_times, nI_plus]
  refine g_iast (160 + 2 * t + 1) rfl rfl rfl (by omega) ?_
  refine oRun_ok 2 rfl ?_
  have loop : ∀ (q k : Nat) (Mk : oM), k + q = L.length → (∀ j, Mk 32 0 j = rwT N t key L a k j) → oFr (oKi K_M_now 0) Mz Mk → oG k_Mod_text 4 117 [some (.inr (K_MOD, 0)), some (.inl 1), some (.inl (nI t)), some (.inl (nI k))] [] Mk (oQM (s_text D) M) := by
    intro q
    induction q with
    | zero =>
      intro k Mk hk hr hF
      have e31 : Mk 31 0 = Mz 31 0 := hF _ _ (fun z => absurd z.1 (by decide))
      refine oRun_ok 3 rfl ?_
      rw [show Mk 31 0 24 = nI L.length from (congrFun e31 24).trans z24]
      refine g_ic_ge rfl (fun _ => ?_) (fun y => absurd ((nIle (by omega) (by omega)).mpr (by omega)) y)
      refine oRun_ok 4 rfl ?_
      refine g_iald 3 rfl rfl rfl (by decide) ?_
      have r3 : Mk 32 0 3 = nI t := (hr 3).trans ((if_neg (by omega)).trans ((if_neg (by omega)).trans ((if_neg (by omega)).trans hT)))
      rw [r3]
      refine oRun_ok 2 rfl ?_
      rw [nI_1]
      refine g_iast 3 rfl rfl rfl (by decide) ?_
      refine oRun_ok 1 rfl ?_
      refine g_iret rfl rfl rfl (oQM.of hs (ps_now psz (fun k' hk' => ?_) ?_) ((frz.tr (hF.mono (fun k i z => show 31 ≤ k ∧ k < 60 from by rw [z.1]; decide))).mdl (by decide)))
      · rw [oUp_k hk']
        exact hF k' 0 (fun z => hk' z.1)
      · funext j
        by_cases j3 : j = 3
        · rw [j3, addT_3]; exact oUp_self
        · refine (oUp_j j3).trans ((hr j).trans ?_)
          unfold rwT addT
          rw [if_neg j3, show k = L.length by omega]
    | succ q ih =>
      intro k Mk hk hr hF
      have e31 : Mk 31 0 = Mz 31 0 := hF _ _ (fun z => absurd z.1 (by decide))
      have e46 : Mk 46 0 = Mz 46 0 := hF _ _ (fun z => absurd z.1 (by decide))
      refine oRun_ok 3 rfl ?_
      rw [show Mk 31 0 24 = nI L.length from (congrFun e31 24).trans z24]
      refine g_ic_ge rfl (fun y => ?_) (fun _ => ?_)
      · rw [nIle (by omega) (by omega)] at y
        omega
      refine oRun_ok 12 rfl ?_
      refine g_iald k rfl rfl rfl (by omega) ?_
      rw [show Mk 46 0 k = L.getD k 0 from (congrFun e46 k).trans (zcd k (by omega)), show (188 : Int32) = nI 188 from rfl, show (96 : Int32) = nI 96 from rfl]
      simp only [nI_times, nI_plus]
      refine g_iast (188 + 96 * t + k) rfl rfl rfl (by omega) ?_
      refine oRun_ok 2 rfl ?_
      rw [nI_1]
      refine ih (k + 1) _ (by omega) (fun j => ?_) (hF.up ⟨rfl, rfl⟩)
      by_cases jk : j = 188 + 96 * t + k
      · rw [jk]
        refine oUp_self.trans ?_
        unfold rwT
        rw [if_neg (by omega), if_neg (by omega), if_pos (by omega), show 188 + 96 * t + k - (188 + 96 * t) = k by omega]
      · refine (oUp_j jk).trans ((hr j).trans ?_)
        unfold rwT
        by_cases y1 : j = 160 + 2 * t
        · rw [if_pos y1, if_pos y1]
        rw [if_neg y1, if_neg y1]
        by_cases y2 : j = 160 + 2 * t + 1
        · rw [if_pos y2, if_pos y2]
        rw [if_neg y2, if_neg y2]
        by_cases y3 : 188 + 96 * t ≤ j ∧ j < 188 + 96 * t + k
        · rw [if_pos y3, if_pos (by omega)]
        · rw [if_neg y3, if_neg (by omega)]
  refine loop L.length 0 _ (by omega) (fun j => ?_) ((oFr.rf.up ⟨rfl, rfl⟩).up ⟨rfl, rfl⟩)
  unfold rwT
  by_cases y2 : j = 160 + 2 * t + 1
  · rw [if_neg (by omega), if_pos y2, y2]; exact oUp_self
  refine (oUp_j y2).trans ?_
  by_cases y1 : j = 160 + 2 * t
  · rw [if_pos y1, y1]; exact oUp_self
  refine (oUp_j y1).trans ?_
  rw [if_neg y1, if_neg y2, if_neg (by omega)]
  exact congrFun nz j

