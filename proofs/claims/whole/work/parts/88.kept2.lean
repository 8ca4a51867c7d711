/-! ## the model's loop keeps step (3): where it wants no part -/
theorem e_180 {M : oM} {f : Nat → Int32} {n p q : Nat} {t : Tk} {x : Option oV} {Q : Option Int32 → oM → Prop} (hT : yMt M f n t) (h4 : t.1 ≤ 4) (h0 : ¬ t.1 = 0) (k : oG k_Mod_takesE 3 180 [some (.inr (K_MOD, 0)), some (.inl (nI p)), some (.inl (nI q)), some (.inl 0), x] [] M Q) : oG k_Mod_takesE 3 28 [some (.inr (K_MOD, 0)), some (.inl (nI p)), some (.inl (nI q)), some (.inl (bI false)), x] [] M Q := by
  refine oRun_ok 1 rfl ?_
  refine g_if_ne rfl (fun z => absurd rfl z) (fun _ => ?_)
  refine oRun_ok 2 rfl ?_
  rw [show M 31 0 17 = _ from hT.2.2.2.2.1]
  refine g_if_eq rfl (fun z => ?_) (fun _ => ?_)
  · have z : nI t.1 = nI 0 := z
    rw [nIe (by omega) (by omega)] at z
    exact absurd z h0
  refine oRun_ok 1 rfl ?_
  exact g_if_eq rfl (fun _ => k) (fun z => absurd rfl z)
theorem e_345 {M : oM} {f : Nat → Int32} {n p q : Nat} {t : Tk} {x : Option oV} {Q : Option Int32 → oM → Prop} (hT : yMt M f n t) (h0 : t.1 = 0) (k : oG k_Mod_takesE 3 345 [some (.inr (K_MOD, 0)), some (.inl (nI p)), some (.inl (nI q)), some (.inl 0), x] [] M Q) : oG k_Mod_takesE 3 28 [some (.inr (K_MOD, 0)), some (.inl (nI p)), some (.inl (nI q)), some (.inl (bI false)), x] [] M Q := by
  refine oRun_ok 1 rfl ?_
  refine g_if_ne rfl (fun z => absurd rfl z) (fun _ => ?_)
  refine oRun_ok 2 rfl ?_
  rw [show M 31 0 17 = _ from hT.2.2.2.2.1, h0]
  exact g_if_eq rfl (fun _ => k) (fun z => absurd rfl z)
theorem e_237 {M : oM} {f : Nat → Int32} {n p q : Nat} {t : Tk} {w x : Option oV} {Q : Option Int32 → oM → Prop} (hT : yMt M f n t) (h4 : t.1 ≤ 4) (hp : p ≤ 96) (hn : ¬ (sgn f t 41 = true ∧ 0 < p)) (k : oG k_Mod_takesE 3 237 [some (.inr (K_MOD, 0)), some (.inl (nI p)), some (.inl (nI q)), w, x] [] M Q) : oG k_Mod_takesE 3 180 [some (.inr (K_MOD, 0)), some (.inl (nI p)), some (.inl (nI q)), w, x] [] M Q := by
  refine oRun_ok 3 rfl ?_
  rw [show M 31 0 17 = _ from hT.2.2.2.2.1]
  refine g_ic_ne rfl (fun _ => k) (fun z => ?_)
  have z : nI t.1 = nI 3 := z
  rw [nIe (by omega) (by omega)] at z
  refine oRun_ok 3 rfl ?_
  rw [show M 31 0 18 = _ from hT.2.2.2.2.2.1 (Or.inr z)]
  refine g_ic_ne rfl (fun _ => k) (fun y => ?_)
  refine oRun_ok 1 rfl ?_
  refine g_if_le rfl (fun _ => k) (fun v => ?_)
  exact absurd ⟨decide_eq_true ⟨z, y⟩, Nat.lt_of_not_le (fun u => v ((nIle (b := 0) (by omega) (by omega)).mpr u))⟩ hn
set_option maxRecDepth 8000 in
theorem k_5 {M0 : oM} {f : Nat → Int32} {n key : Nat} {Q : Option Int32 → oM → Prop} (h96 : n ≤ 96) : ∀ t p C K S T A, sgn f t 41 = true → (∀ x ∈ K, stp 0 x = true) → yP M0 f n key Q false (nxT f n t) p (C ++ K ++ S.takeWhile (stp 6)) (S.dropWhile (stp 6)) T A → yP M0 f n key Q false t (p + 1) C (K ++ -11 :: S) T A := by
  intro t p C K S T A hs hK k M x h hv hl hp hF
  obtain ⟨t3, fc⟩ := sg_ne hs
  have hT := h.1
  obtain ⟨a1, a2⟩ := hv.2.2.2.2.1 (by omega)
  have hnv := nxT_v (f := f) (t := t) hv.2.1
  have hl' : C.length + (K.length + (S.length + 1)) ≤ t.2.1 := by
    rw [List.length_append] at hl
    exact hl
  have hsz : (S.takeWhile (stp 6)).length + (S.dropWhile (stp 6)).length = S.length := by
    rw [← List.length_append, List.takeWhile_append_dropWhile]
  have etw : (K ++ -11 :: S).takeWhile (stp 0) = K ∧ (K ++ -11 :: S).dropWhile (stp 0) = -11 :: S := by
    rw [List.takeWhile_append_of_pos hK, List.dropWhile_append_of_pos hK, List.takeWhile_cons_of_neg (by decide), List.dropWhile_cons_of_neg (by decide), List.append_nil]
    exact ⟨rfl, rfl⟩
  refine e_180 hT hv.2.2.1 (by omega) ?_
  refine oRun_ok 3 rfl ?_
  rw [show M 31 0 17 = _ from hT.2.2.2.2.1]
  refine g_ic_ne rfl (fun z => absurd (by rw [t3]; rfl) z) (fun _ => ?_)
  refine oRun_ok 3 rfl ?_
  rw [show M 31 0 18 = _ from hT.2.2.2.2.2.1 (Or.inr t3)]
  refine g_ic_ne rfl (fun z => absurd fc z) (fun _ => ?_)
  refine oRun_ok 1 rfl ?_
  refine g_if_le rfl (fun z => ?_) (fun _ => ?_)
  · have z : nI (p + 1) ≤ nI 0 := z
    rw [nIle (by omega) (by omega)] at z
    omega
  refine oRun_ok 2 rfl ?_
  refine g_callV rfl rfl rfl rfl rfl mok_Mod_settle (by decide) (c_Msettle M f n key (p + 1) 0 t C (K ++ -11 :: S) T A h (by decide) (by rw [List.length_append]; show C.length + (K.length + (S.length + 1)) ≤ 96; omega)) ?_
  rintro r M1 ⟨rfl, h1, f1⟩
  rw [etw.1, etw.2] at h1
  refine oRun_ok 9 rfl ?_
  rw [show M1 31 0 27 = nI (S.length + 1) from h1.2.2.1.2.2.1, show (1 : Int32) = nI 1 from rfl, nIsub (by omega), Nat.add_sub_cancel]
  rw [show nI (p + 1) + -nI 1 = nI p by rw [← nI_1, Int32.add_assoc, show (1 : Int32) + -nI 1 = 0 from rfl, Int32.add_zero]]
  refine g_callV rfl rfl rfl rfl rfl mok_Mod_settle (by decide) (c_Msettle _ f n key p 6 t (C ++ K) S T A (h1.pop.le (by omega)) (by decide) (by rw [List.length_append]; omega)) ?_
  rintro r M2 ⟨rfl, h2, f2⟩
  refine oRun_ok 1 rfl ?_
  refine g_callV rfl rfl rfl rfl rfl mok_Mod_notsOpen (by decide) (c_Mod_notsOpen M2 _ h2.2.2.1.2.2.1 h2.2.2.1.2.2.2 (by omega)) ?_
  rintro r M3 ⟨rfl, e⟩; rw [e]
  refine oRun_ok 2 rfl ?_
  refine g_callV rfl rfl rfl rfl rfl mok_Mod_go (by decide) (c_Mgo _ f n key p t _ _ T A h2 h96 hv (by omega)) ?_
  rintro r M4 ⟨rfl, h4, f4⟩
  refine oRun_ok 1 rfl ?_
  refine k M4 _ h4 hnv.1 ?_ (by omega) (((((hF.tr f1).m (by decide)).tr f2)).tr f4)
  rw [List.length_append, List.length_append]
  omega
set_option maxRecDepth 8000 in
theorem k_6 {M0 : oM} {f : Nat → Int32} {n key : Nat} {Q : Option Int32 → oM → Prop} (h96 : n ≤ 96) : ∀ lev t p C K S T A, lev < 5 → jn f lev t = true → ¬ (lev = 2 ∧ T p = true) → (∀ x ∈ K, ¬ x = -10 ∧ stp (lev + 1) x = true) → bnd lev S → yP M0 f n key Q true (nxT f n t) p (C ++ K) (opC f key t :: S) (upT T p (decide (lev = 2) || decide (2 < lev) && T p)) A → yP M0 f n key Q false t p C (K ++ S) T A := by
  intro lev t p C K S T A hlev hj h2T hK hb k M x h hv hl hp hF
  have t3 := jn_3 hj
  have hT := h.1
  obtain ⟨a1, a2⟩ := hv.2.2.2.2.1 (by omega)
  have hnv := nxT_v (f := f) (t := t) hv.2.1
  have hl' : C.length + (K.length + S.length) ≤ t.2.1 := by
    rw [List.length_append] at hl
    exact hl
  have etw := tw_b (fun x hx => (hK x hx).2) hb
  obtain ⟨o1, o2, o3, o4⟩ := op_ok (key := key) hlev hj
  obtain ⟨ork, o0⟩ := op_rk (key := key) hlev hj
  have eno : nO (K ++ S) = nO (opC f key t :: S) := (nO_app (fun x hx => (hK x hx).1)).trans (nO_cons o1).symm
  have hTp : M 48 0 p = bI (T p) := h.2.2.2.2 p (Nat.le_refl p)
  refine e_180 hT hv.2.2.1 (by omega) (e_237 hT hv.2.2.1 (by omega) (fun z => ?_) ?_)
  · obtain ⟨c, ec, hc⟩ := jn_c hlev hj
    rw [(sg_ne z.1).2] at ec
    rw [← ec] at hc
    exact absurd hc (by decide)
  refine oRun_ok 1 rfl ?_
  refine g_callV rfl rfl rfl rfl rfl mok_Mod_signHere (by decide) (c_Mod_signHere M f n key t hT hv.2.2.1) ?_
  rintro r M1 ⟨r1, -, e⟩; rw [e, r1 lev hlev hj]
  refine oRun_ok 2 rfl ?_
  refine g_if_eq rfl (fun z => absurd z o0) (fun _ => ?_)
  have rest : oG k_Mod_takesE 3 268 [some (.inr (K_MOD, 0)), some (.inl (nI p)), some (.inl (nI (nO (K ++ S)))), some (.inl 0), some (.inl (opC f key t))] [] M Q := by
    refine oRun_ok 4 rfl ?_
    refine g_callS rfl rfl rfl rfl mok_Mod_rank (by decide) (c_Mod_rank M _) ?_
    rintro r M2 ⟨rfl, e⟩; rw [e, ork]
    refine oRun_ok 1 rfl ?_
    have p305 : oG k_Mod_takesE 3 305 [some (.inr (K_MOD, 0)), some (.inl (nI p)), some (.inl (nI (nO (K ++ S)))), some (.inl 0), some (.inl (opC f key t))] [.inl (bI (decide (lev = 2) || decide (2 < lev) && T p)), .inl (nI p), .inr (48, 0)] M Q := by
      refine g_zast p rfl rfl rfl (by omega) ?_ ?_
      · cases (decide (lev = 2) || decide (2 < lev) && T p) <;> rfl
      refine oRun_ok 2 rfl ?_
      refine g_callS rfl rfl rfl rfl mok_Mod_rank (by decide) (c_Mod_rank _ _) ?_
      rintro r M2 ⟨rfl, e⟩; rw [e, ork]
      refine g_callV rfl rfl rfl rfl rfl mok_Mod_settle (by decide) (c_Msettle _ f n key p (lev + 1) t C (K ++ S) _ A (h.flag (Or.inl rfl)) (by omega) (by rw [List.length_append]; omega)) ?_
      rintro r M3 ⟨rfl, h3, f3⟩
      rw [etw.1, etw.2] at h3
      refine oRun_ok 5 rfl ?_
      rw [show M3 31 0 27 = _ from h3.2.2.1.2.2.1]
      refine g_iast S.length rfl rfl rfl (by omega) ?_
      refine oRun_ok 9 rfl ?_
      rw [show oUp M3 47 0 S.length (opC f key t) 31 0 27 = _ from h3.2.2.1.2.2.1, nI_1]
      refine g_callV rfl rfl rfl rfl rfl mok_Mod_go (by decide) (c_Mgo _ f n key p t _ _ _ A h3.push h96 hv (by omega)) ?_
      rintro r M4 ⟨rfl, h4, f4⟩
      refine oRun_ok 1 rfl ?_
      rw [eno]
      refine k M4 _ h4 hnv.1 ?_ hp ?_
      · rw [List.length_append]
        show C.length + K.length + (S.length + 1) ≤ _
        omega
      · exact hF.tr (((((yTf.rf.k (Or.inr (Or.inr rfl))).tr f3).k (Or.inr (Or.inl rfl))).m (by decide)).tr f4)
    refine g_ic_eq rfl (fun z => ?_) (fun z => ?_)
    · have z : nI (lev + 1) = nI 3 := z
      rw [nIe (by omega) (by omega)] at z
      refine oRun_ok 2 rfl ?_
      rw [decide_eq_true (show lev = 2 by omega)] at p305
      exact p305
    · have z : ¬ nI (lev + 1) = nI 3 := z
      rw [nIe (by omega) (by omega)] at z
      rw [decide_eq_false (show ¬ lev = 2 by omega)] at p305
      refine oRun_ok 1 rfl ?_
      refine g_callS rfl rfl rfl rfl mok_Mod_rank (by decide) (c_Mod_rank M _) ?_
      rintro r M2 ⟨rfl, e⟩; rw [e, ork]
      refine oRun_ok 1 rfl ?_
      refine g_ic_le rfl (fun y => ?_) (fun y => ?_)
      · have y : nI (lev + 1) ≤ nI 3 := y
        rw [nIle (by omega) (by omega)] at y
        refine oRun_ok 1 rfl ?_
        rw [decide_eq_false (show ¬ 2 < lev by omega)] at p305
        exact p305
      · have y : ¬ nI (lev + 1) ≤ nI 3 := y
        rw [nIle (by omega) (by omega)] at y
        rw [decide_eq_true (show 2 < lev by omega)] at p305
        refine oRun_ok 3 rfl ?_
        refine g_zald p rfl rfl rfl (by omega) ?_
        rw [hTp]
        cases hTT : T p
        · refine g_if_eq rfl (fun _ => ?_) (fun w => absurd rfl w)
          refine oRun_ok 1 rfl ?_
          rw [hTT] at p305
          exact p305
        · refine g_if_eq rfl (fun w => absurd w (by decide)) (fun _ => ?_)
          refine oRun_ok 2 rfl ?_
          rw [hTT] at p305
          exact p305
  refine oRun_ok 1 rfl ?_
  refine g_callS rfl rfl rfl rfl mok_Mod_rank (by decide) (c_Mod_rank M _) ?_
  rintro r M2 ⟨rfl, e⟩; rw [e, ork]
  refine oRun_ok 1 rfl ?_
  refine g_ic_ne rfl (fun _ => rest) (fun z => ?_)
  have z : nI (lev + 1) = nI 3 := z
  rw [nIe (by omega) (by omega)] at z
  refine oRun_ok 3 rfl ?_
  refine g_zald p rfl rfl rfl (by omega) ?_
  rw [hTp]
  have : T p = false := Bool.eq_false_iff.mpr (fun w => h2T ⟨by omega, w⟩)
  rw [this]
  exact g_if_eq rfl (fun _ => rest) (fun w => absurd rfl w)
set_option maxRecDepth 8000 in
theorem k_7 {M0 : oM} {f : Nat → Int32} {n key : Nat} {Q : Option Int32 → oM → Prop} (h96 : n ≤ 96) : ∀ t p C S T A, ¬ t.1 = 0 → ¬ (sgn f t 41 = true ∧ 0 < p) → (∀ l, l < 5 → jn f l t = false ∨ (l = 2 ∧ T p = true)) → yF M0 Q t → yP M0 f n key Q false t p C S T A := by
  intro t p C S T A h0 n1 n2 hQ M x h hv hl hp hF
  have hT := h.1
  have hTp : M 48 0 p = bI (T p) := h.2.2.2.2 p (Nat.le_refl p)
  refine e_180 hT hv.2.2.1 h0 (e_237 hT hv.2.2.1 (by omega) n1 ?_)
  refine oRun_ok 1 rfl ?_
  refine g_callV rfl rfl rfl rfl rfl mok_Mod_signHere (by decide) (c_Mod_signHere M f n key t hT hv.2.2.1) ?_
  rintro r M1 ⟨r1, r2, e⟩; rw [e]
  by_cases hj : jn f 2 t = true
  · have hTT : T p = true := by
      rcases n2 2 (by decide) with y | y
      · exact absurd (y.symm.trans hj) (by decide)
      · exact y.2
    obtain ⟨ork, o0⟩ := op_rk (key := key) (by decide) hj
    rw [r1 2 (by decide) hj]
    refine oRun_ok 2 rfl ?_
    refine g_if_eq rfl (fun z => absurd z o0) (fun _ => ?_)
    refine oRun_ok 1 rfl ?_
    refine g_callS rfl rfl rfl rfl mok_Mod_rank (by decide) (c_Mod_rank M _) ?_
    rintro r M2 ⟨rfl, e⟩; rw [e, ork]
    refine oRun_ok 1 rfl ?_
    refine g_ic_ne rfl (fun z => absurd rfl z) (fun _ => ?_)
    refine oRun_ok 3 rfl ?_
    refine g_zald p rfl rfl rfl (by omega) ?_
    rw [hTp, hTT]
    refine g_if_eq rfl (fun w => absurd w (by decide)) (fun _ => ?_)
    refine oRun_ok 1 rfl ?_
    exact g_iret rfl rfl rfl (hQ M hT.2.2.2.1 hF)
  · rw [r2 (fun l hl => by
      rcases n2 l hl with y | y
      · exact y
      · rw [y.1]; exact Bool.eq_false_iff.mpr hj)]
    refine oRun_ok 2 rfl ?_
    refine g_if_eq rfl (fun _ => ?_) (fun z => absurd rfl z)
    refine oRun_ok 1 rfl ?_
    exact g_iret rfl rfl rfl (hQ M hT.2.2.2.1 hF)
set_option maxRecDepth 8000 in
theorem k_8 {M0 : oM} {f : Nat → Int32} {n key : Nat} {Q : Option Int32 → oM → Prop} (h96 : n ≤ 96) : ∀ t p C S T A, t.1 = 0 → 0 < p → yF M0 Q t → yP M0 f n key Q false t p C S T A := by
  intro t p C S T A h0 p0 hQ M x h hv hl hp hF
  have hT := h.1
  have hv1 := hv.1
  refine e_345 hT h0 ?_
  refine oRun_ok 2 rfl ?_
  refine g_callV rfl rfl rfl rfl rfl mok_Mod_settle (by decide) (c_Msettle M f n key p 0 t C S T A h (by decide) (by omega)) ?_
  rintro r M1 ⟨rfl, h1, f1⟩
  refine oRun_ok 1 rfl ?_
  refine g_if_ne rfl (fun _ => ?_) (fun z => ?_)
  · refine oRun_ok 1 rfl ?_
    exact g_iret rfl rfl rfl (hQ M1 h1.1.2.2.2.1 (hF.tr f1))
  · have z : ¬ ¬ nI p = nI 0 := fun y => y z
    rw [nIe (by omega) (by omega)] at z
    omega
theorem yKept {M0 : oM} {f : Nat → Int32} {n key : Nat} {Q : Option Int32 → oM → Prop} (h96 : n ≤ 96) (hk : key < 3) : oKept f n key (yF M0 Q) (yP M0 f n key Q) := ⟨k_1 h96, k_2 h96, k_3 h96 hk, k_4 h96 hk, k_5 h96, k_6 h96, k_7 h96, k_8 h96⟩

