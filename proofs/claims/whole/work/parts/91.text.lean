/-! ## text: the class -/
noncomputable def tpC (f : Nat → Int32) (n : Nat) : List Int32 := (tR f n).2.2.1.map (trC (kH f (tk1 f n)))
noncomputable def s_text (D : oM) : Int32 × oM := by
  classical
  exact if tOk (D K_M_tape 0) (D K_MOD 0 14).toNatClampNeg then (if cT (D K_M_now 0) = 14 then (vFULL, oUp D K_MOD 0 14 0) else (nI (cT (D K_M_now 0)), oSR (oUp D K_MOD 0 14 0) K_M_now (addT (D K_M_now 0) (cT (D K_M_now 0)) (kH (D K_M_tape 0) (tk1 (D K_M_tape 0) (D K_MOD 0 14).toNatClampNeg)) (tpC (D K_M_tape 0) (D K_MOD 0 14).toNatClampNeg) (tR (D K_M_tape 0) (D K_MOD 0 14).toNatClampNeg).2.2.2)))
    else (-100 - nI (tAt (D K_M_tape 0) (D K_MOD 0 14).toNatClampNeg), oUp D K_MOD 0 14 0)
theorem s_text_no {D : oM} {n : Nat} (e : (D K_MOD 0 14).toNatClampNeg = n) (h : ¬ tOk (D K_M_tape 0) n) : s_text D = (-100 - nI (tAt (D K_M_tape 0) n), oUp D K_MOD 0 14 0) := by
  subst e
  exact if_neg h
theorem s_text_full {D : oM} {n : Nat} (e : (D K_MOD 0 14).toNatClampNeg = n) (h : tOk (D K_M_tape 0) n) (hc : cT (D K_M_now 0) = 14) : s_text D = (vFULL, oUp D K_MOD 0 14 0) := by
  subst e
  exact (if_pos h).trans (if_pos hc)
theorem s_text_ok {D : oM} {n : Nat} (e : (D K_MOD 0 14).toNatClampNeg = n) (h : tOk (D K_M_tape 0) n) (hc : ¬ cT (D K_M_now 0) = 14) : s_text D = (nI (cT (D K_M_now 0)), oSR (oUp D K_MOD 0 14 0) K_M_now (addT (D K_M_now 0) (cT (D K_M_now 0)) (kH (D K_M_tape 0) (tk1 (D K_M_tape 0) n)) (tpC (D K_M_tape 0) n) (tR (D K_M_tape 0) n).2.2.2)) := by
  subst e
  exact (if_pos h).trans (if_neg hc)
theorem tpC_ok {f : Nat → Int32} {n : Nat} (h96 : n ≤ 96) (h : tOk f n) : (tpC f n).length = (tR f n).2.2.1.length ∧ (tpC f n).length ≤ 96 ∧ lOk (kH f (tk1 f n)) (tpC f n) ∧ ∀ j, j < (tpC f n).length → oTr (nI (kH f (tk1 f n))) ((tR f n).2.2.1.getD j 0) = some ((tpC f n).getD j 0) := by
  have hw := pL_w h.1 62 0 0 0 (nxT f n (tk1 f n)) (nxT_v (tk1_v f n).2.1).1 h.2.1
  have e : (tpC f n).length = (tR f n).2.2.1.length := List.length_map _
  refine ⟨e, by rw [e]; exact tR_96 h96 h, ⟨hw.1 0, fun v hv => ?_⟩, fun j hj => ?_⟩
  · obtain ⟨c, hc, rfl⟩ := List.mem_map.mp hv
    exact (hw.2 c hc).2
  · have hj' : j < (tR f n).2.2.1.length := by rw [← e]; exact hj
    have h1 : (tR f n).2.2.1.getD j 0 = (tR f n).2.2.1[j] := by rw [List.getD_eq_getElem?_getD, List.getElem?_eq_getElem hj']; rfl
    have h2 : (tpC f n).getD j 0 = trC (kH f (tk1 f n)) (tR f n).2.2.1[j] := by
      unfold tpC
      rw [List.getD_eq_getElem?_getD, List.getElem?_map, List.getElem?_eq_getElem hj']
      rfl
    rw [h1, h2]
    exact (hw.2 _ (List.getElem_mem hj')).1
/-- the tape is read: nothing else has changed -/
theorem oI_tp {M M' D : oM} (hI : oI M D) (hF : oFr oRk M M') (h1 : M' K_READER 0 1 = 0) : oI M' (oUp D K_MOD 0 14 0) := by
  obtain ⟨i1, i2, i3, i4, i5, i6, i7⟩ := hI
  have e : ∀ k i, ¬ (k = K_READER ∨ k = K_RCOD) → M' k i = M k i := fun k i hk => hF k i hk
  have hk : oKp M M' := fun k hk i => e k i ((by decide : ∀ k ∈ oRLk, ¬ (k = K_READER ∨ k = K_RCOD)) k hk)
  have d : ∀ k, ¬ k = K_MOD → oUp D K_MOD 0 14 0 k = D k := fun k hk => oUp_k hk
  refine ⟨i1.cg hk (by rw [d _ (by decide)]), i2.cg hk (by rw [e _ _ (by decide)]) (by rw [d _ (by decide)]) (by rw [d _ (by decide)]) (oUp_j (by decide)), ⟨0, by decide, h1, oUp_self, fun j hj => absurd hj (Nat.not_lt_zero j)⟩, i4.cg (fun s _ => ⟨e _ _ (by decide), e _ _ (by decide)⟩) (by rw [d _ (by decide)]) (by rw [d _ (by decide)]) (by rw [d _ (by decide)]), i5.cg (fun s _ => ⟨e _ _ (by decide), e _ _ (by decide), e _ _ (by decide)⟩) (by rw [d _ (by decide)]) (by rw [d _ (by decide)]) (by rw [d _ (by decide)]) (by rw [d _ (by decide)]), i6.cg (by rw [e _ _ (by decide)]) (by rw [e _ _ (by decide)]) (oUp_j (by decide)) (by rw [d _ (by decide)]), i7.cg (by rw [d _ (by decide)]) (by rw [d _ (by decide)])⟩
theorem yTx_cl {t k i : Nat} (h : yTx t k i) : k < 31 := by
  rcases h with (h | h) | ⟨h | h, -⟩ | ⟨h, -⟩ <;> rw [h] <;> decide
/-- a text more -/
theorem oI_tx {M M' D : oM} {t key : Nat} {L Cc : List Int32} {a : Nat} (hI : oI M D) (ht : cT (D K_M_now 0) = t) (h14 : t < 14) (hk : key < 3) (hL : L.length ≤ 96) (hl : lOk key L) (hc : Cc.length = L.length) (htr : ∀ j, j < L.length → oTr (nI key) (Cc.getD j 0) = some (L.getD j 0)) (hF : oFr (yTx t) M M')
    (hA : ∀ j, ¬ j = 6 → M' K_LAND 0 j = M K_LAND 0 j) (h6 : M' K_LAND 0 6 = nI (t + 1)) (x0 : M' K_TEXT t 0 = nI key) (x1 : M' K_TEXT t 1 = nI a) (x2 : M' K_TEXT t 2 = nI Cc.length) (x3 : ∀ j, j < Cc.length → M' K_TCOD t j = Cc.getD j 0) (h1 : M' K_READER 0 1 = 0) : oI M' (oSR (oUp D K_MOD 0 14 0) K_M_now (addT (D K_M_now 0) t key L a)) := by
  obtain ⟨i1, i2, i3, i4, i5, i6, i7⟩ := hI
  obtain ⟨hN, hRL⟩ := i1
  have e : ∀ k i, ¬ (k = K_READER ∨ k = K_RCOD ∨ k = K_TEXT ∨ k = K_TCOD ∨ k = K_LAND) → M' k i = M k i := fun k i hk => hF k i (fun z => hk (by
    rcases z with (z | z) | z | z
    · exact Or.inl z
    · exact Or.inr (Or.inl z)
    · rcases z.1 with z | z
      · exact Or.inr (Or.inr (Or.inl z))
      · exact Or.inr (Or.inr (Or.inr (Or.inl z)))
    · exact Or.inr (Or.inr (Or.inr (Or.inr z.1)))))
  have d : ∀ k, ¬ k = K_MOD → ¬ k = K_M_now → oSR (oUp D K_MOD 0 14 0) K_M_now (addT (D K_M_now 0) t key L a) k = D k := fun k h1 h2 => (oSR_ne h2).trans (oUp_k h1)
  have dm : ∀ j, ¬ j = 14 → oSR (oUp D K_MOD 0 14 0) K_M_now (addT (D K_M_now 0) t key L a) K_MOD 0 j = D K_MOD 0 j := fun j hj => by
    rw [oSR_ne (by decide)]
    exact oUp_j hj
  subst ht
  obtain ⟨aN, aT, aS, aD⟩ := addT_ok (a := a) hN h14 hk hL hl
  have hS8 := (oNS hN).2
  have hD4 := (oND hN).2
  have eN : ∀ j, j < 160 → ¬ j = 3 → addT (D K_M_now 0) (cT (D K_M_now 0)) key L a j = D K_M_now 0 j := fun j h1 h2 => addT_no h2 (by omega) (by omega)
  have nw : oSR (oUp D K_MOD 0 14 0) K_M_now (addT (D K_M_now 0) (cT (D K_M_now 0)) key L a) K_M_now 0 = addT (D K_M_now 0) (cT (D K_M_now 0)) key L a := oSR_at
  refine ⟨?_, ?_, ⟨0, by decide, h1, by rw [oSR_ne (by decide)]; exact oUp_self, fun j hj => absurd hj (Nat.not_lt_zero j)⟩, i4.cg (fun s _ => ⟨e _ _ (by decide), e _ _ (by decide)⟩) (by rw [d _ (by decide) (by decide)]) (by rw [d _ (by decide) (by decide)]) (by rw [d _ (by decide) (by decide)]), i5.cg (fun s _ => ⟨e _ _ (by decide), e _ _ (by decide), e _ _ (by decide)⟩) (by rw [d _ (by decide) (by decide)]) (by rw [d _ (by decide) (by decide)]) (by rw [d _ (by decide) (by decide)]) (by rw [d _ (by decide) (by decide)]), i6.cg (by rw [e _ _ (by decide)]) (by rw [e _ _ (by decide)]) (dm _ (by decide)) (by rw [d _ (by decide) (by decide)]), i7.cg (by rw [d _ (by decide) (by decide)]) (by rw [d _ (by decide) (by decide)])⟩
  · unfold I_land
    rw [nw]
    refine ⟨aN, ?_⟩
    obtain ⟨q1, q2, q3, q4, q5, q6, q7⟩ := hRL
    refine ⟨by rw [hA _ (by decide), eN _ (by decide) (by decide)]; exact q1, by rw [hA _ (by decide), eN _ (by decide) (by decide)]; exact q2, by rw [h6, addT_3], by rw [hA _ (by decide), eN _ (by decide) (by decide)]; exact q4, fun i hi => ?_, fun dd hd => ?_, fun u hu => ?_⟩
    · rw [aS] at hi
      rw [e K_STX _ (by decide), e K_STY _ (by decide), eN _ (by omega) (by omega), eN _ (by omega) (by omega)]
      exact q5 i hi
    · rw [aD] at hd
      have z := q6 dd hd
      have eC : cC (addT (D K_M_now 0) (cT (D K_M_now 0)) key L a) dd = cC (D K_M_now 0) dd := by unfold cC; rw [eN _ (by omega) (by omega)]
      have hC := (oNC (hN.2.2.2.2.1 dd hd)).2
      unfold oRD at z ⊢
      rw [e K_DEED _ (by decide), e K_DK _ (by decide), e K_DW _ (by decide), e K_DL _ (by decide), eC]
      refine ⟨fun w hw => by rw [eN _ (by omega) (by omega)]; exact z.1 w hw, fun j hj => ?_⟩
      rw [eN _ (by omega) (by omega), eN _ (by omega) (by omega), eN _ (by omega) (by omega)]
      exact z.2 j hj
    · rw [aT] at hu
      by_cases hut : u = cT (D K_M_now 0)
      · subst hut
        obtain ⟨e1, e2, -⟩ := addT_tk (N := D K_M_now 0) (t := cT (D K_M_now 0)) (a := a) hk hL
        unfold oRT
        rw [e1, e2]
        refine ⟨x0, by rw [addT_a]; exact x1, by rw [x2, hc], fun k hk' => ?_⟩
        rw [x3 k (by omega), addT_c h14 hk']
        exact htr k hk'
      · have hu' : u < cT (D K_M_now 0) := by omega
        have z := q7 u hu'
        obtain ⟨e1, e2, e3, e4⟩ := addT_ot (key := key) (L := L) (a := a) hu' h14 (hN.2.2.2.2.2 u hu')
        have f1 : M' K_TEXT u = M K_TEXT u := hF _ _ (fun z => by
          rcases z with (z | z) | z | z
          · exact absurd z (by decide)
          · exact absurd z (by decide)
          · exact absurd z.2 hut
          · exact absurd z.1 (by decide))
        have f2 : M' K_TCOD u = M K_TCOD u := hF _ _ (fun z => by
          rcases z with (z | z) | z | z
          · exact absurd z (by decide)
          · exact absurd z (by decide)
          · exact absurd z.2 hut
          · exact absurd z.1 (by decide))
        unfold oRT at z ⊢
        rw [e1, e2, e3, f1, f2]
        exact ⟨z.1, z.2.1, z.2.2.1, fun k hk' => by rw [e4 k hk']; exact z.2.2.2 k hk'⟩
  · unfold I_img at i2 ⊢
    rw [dm 3 (by decide), e K_OAK _ (by decide), nw, aT, d K_M_image (by decide) (by decide)]
    refine ⟨i2.1, i2.2.imp id (fun q => ⟨q.1, q.2.1, oRL_tx hF (hF _ _ (fun z => ?_)) q.2.2.2 q.2.2.1, by have := q.2.2.2; omega⟩)⟩
    rcases z with (z | z) | z | z
    · exact absurd z (by decide)
    · exact absurd z (by decide)
    · rcases z.1 with z | z <;> exact absurd z (by decide)
    · exact absurd z.2 (by decide)
theorem p_text (M D : oM) (hI : oI M D) : oCt 131 k_Oak_text [.inr (K_OAK, 0)] M (oQC (s_text D) M) := by
  obtain ⟨n, hn, t1, t2, t3⟩ := hI.tape
  have en : (D K_MOD 0 14).toNatClampNeg = n := by rw [t2, nIc (by omega)]
  obtain ⟨hT, t14⟩ := oNT hI.ok
  have hL6 : M K_LAND 0 6 = nI (cT (D K_M_now 0)) := hI.rl.2.2.1.trans hT
  refine oCt.of (ls := [some (.inr (K_OAK, 0)), none]) mok_Oak_text rfl rfl ?_
  refine oRun_ok 2 rfl ?_
  refine g_callV rfl rfl rfl rfl rfl mok_Reader_parseTape (by decide) (c_Reader_parseTape M (D K_M_tape 0) n (fun j hj => (t3 j hj).1) t1 hn) ?_
  rintro r M1 ⟨r1, r2, f1⟩
  have fC : oFr oRk M (oUp M1 22 0 1 0) := f1.up (Or.inl rfl)
  have fcl : oFr oCls M (oUp M1 22 0 1 0) := fC.mono (fun k i z => show k < 31 from by rcases z with z | z <;> rw [z] <;> decide)
  have e1 : M1 K_LAND = M K_LAND := by
    funext i
    exact f1 K_LAND i (by unfold oRk; decide)
  by_cases ho : tOk (D K_M_tape 0) n
  rotate_left
  · obtain ⟨rfl, h3⟩ := r2 ho
    refine oRun_ok 6 rfl ?_
    refine g_if_ne rfl (fun z => absurd rfl z) (fun _ => ?_)
    refine oRun_ok 5 rfl ?_
    rw [show oUp M1 22 0 1 0 22 0 3 = nI (tAt (D K_M_tape 0) n) from (oUp_j (by decide)).trans h3]
    exact g_iret rfl rfl rfl (oQC.of (s_text_no en ho) (oI_tp hI fC oUp_self) fcl)
  obtain ⟨rfl, h3⟩ := r1 ho
  refine oRun_ok 6 rfl ?_
  refine g_if_ne rfl (fun _ => ?_) (fun z => absurd z (by decide))
  refine oRun_ok 4 rfl ?_
  rw [show oUp M1 22 0 1 0 1 0 6 = nI (cT (D K_M_now 0)) from (congrFun (congrFun (oUp_k (by decide)) 0) 6).trans ((congrFun (congrFun e1 0) 6).trans hL6)]
  refine g_ic_lt rfl (fun z => ?_) (fun z => ?_)
  rotate_left
  · have z : ¬ nI (cT (D K_M_now 0)) < nI 14 := z
    rw [nIlt (by omega) (by omega)] at z
    refine oRun_ok 1 rfl ?_
    exact g_iret rfl rfl rfl (oQC.of (s_text_full en ho (by omega)) (oI_tp hI fC oUp_self) fcl)
  have z : nI (cT (D K_M_now 0)) < nI 14 := z
  rw [nIlt (by omega) (by omega)] at z
  obtain ⟨c1, c2, c3, c4⟩ := tpC_ok hn ho
  refine oRun_ok 6 rfl ?_
  rw [show oUp M1 22 0 1 0 1 0 6 = nI (cT (D K_M_now 0)) from (congrFun (congrFun (oUp_k (by decide)) 0) 6).trans ((congrFun (congrFun e1 0) 6).trans hL6)]
  refine g_aald (t := cT (D K_M_now 0)) (cT (D K_M_now 0)) rfl rfl rfl z (by omega) ?_
  refine oRun_ok 2 rfl ?_
  have s2 : oRs (oUp M1 22 0 1 0) (D K_M_tape 0) 0 (kH (D K_M_tape 0) (tk1 (D K_M_tape 0) n)) (tR (D K_M_tape 0) n).2.1 (tR (D K_M_tape 0) n).2.2.1 (tR (D K_M_tape 0) n).2.2.2 := by
    obtain ⟨-, -, w2, w3, w4, w5, w6, w7, w8⟩ := h3
    exact ⟨fun j hj => absurd hj (Nat.not_lt_zero j), oUp_self, (oUp_j (by decide)).trans w2, (oUp_j (by decide)).trans w3, (oUp_j (by decide)).trans w4, (oUp_j (by decide)).trans w5, (oUp_j (by decide)).trans w6, (oUp_j (by decide)).trans w7, fun j hj => by rw [oUp_k (by decide)]; exact w8 j hj⟩
  refine g_callV rfl rfl rfl rfl rfl mok_Text_takeFrom (by decide) (c_Text_takeFrom _ (D K_M_tape 0) 0 _ (cT (D K_M_now 0)) _ _ _ s2 (by omega) z) ?_
  rintro r M3 ⟨rfl, x0, x1, x2, x3, f3⟩
  have e3 : ∀ k i, ¬ (k = K_TEXT ∨ k = K_TCOD) → M3 k i = oUp M1 22 0 1 0 k i := fun k i hk => f3 k i (fun z => hk z.1)
  have l6 : M3 1 0 6 = nI (cT (D K_M_now 0)) := (congrFun (e3 1 0 (by decide)) 6).trans ((congrFun (congrFun (oUp_k (by decide)) 0) 6).trans ((congrFun (congrFun e1 0) 6).trans hL6))
  refine oRun_ok 12 rfl ?_
  rw [l6, nI_1]
  rw [show oUp M3 1 0 6 (nI (cT (D K_M_now 0) + 1)) 1 0 6 = nI (cT (D K_M_now 0) + 1) from oUp_self, show (1 : Int32) = nI 1 from rfl, nIsub (by omega), Nat.add_sub_cancel]
  have fx : oFr (yTx (cT (D K_M_now 0))) M (oUp M3 1 0 6 (nI (cT (D K_M_now 0) + 1))) := ((fC.mono (fun k i z => Or.inl z)).tr (f3.mono (fun k i z => Or.inr (Or.inl z)))).up (Or.inr (Or.inr ⟨rfl, rfl⟩))
  refine g_iret rfl rfl rfl (oQC.of (s_text_ok en ho (by omega)) (oI_tx (Cc := (tR (D K_M_tape 0) n).2.2.1) hI rfl z ho.1 c2 c3 c1.symm (fun j hj => c4 j hj) fx (fun j hj => ?_) oUp_self ?_ ?_ ?_ (fun j hj => ?_) ?_) (fx.mono (fun k i z => yTx_cl z)))
  · exact (oUp_j hj).trans ((congrFun (e3 1 0 (by decide)) j).trans ((congrFun (congrFun (oUp_k (by decide)) 0) j).trans (congrFun (congrFun e1 0) j)))
  · rw [oUp_k (by decide)]; exact x0
  · rw [oUp_k (by decide)]; exact x1
  · rw [oUp_k (by decide)]; exact x2
  · rw [oUp_k (by decide)]; exact x3 j hj
  · rw [oUp_k (by decide), e3 _ _ (by decide)]; exact oUp_self

