/-! ## the model takes a part (2) -/
theorem yMe.code {M : oM} {f : Nat → Int32} {n key p : Nat} {t : Tk} {C S : List Int32} {T : Nat → Bool} {A : Nat} {v : Int32} (h : yMe M f n key p t C S T A) : yMe (oUp (oUp (oUp M K_M_code 0 C.length v) K_MOD 0 24 (nI (C.length + 1))) K_MOD 0 25 (nI (A + 1))) f n key p t (C ++ [v]) S T (A + 1) := by
  obtain ⟨⟨b1, b2, b3, b4, b5, b6, b7, b8⟩, h2, ⟨c1, c2, c3, c4⟩, h7, h8⟩ := h
  have e : ∀ j, ¬ (j = 24 ∨ j = 25) → (oUp (oUp (oUp M K_M_code 0 C.length v) K_MOD 0 24 (nI (C.length + 1))) K_MOD 0 25 (nI (A + 1))) K_MOD 0 j = M K_MOD 0 j := fun j hj => (oUp_j (fun z => hj (Or.inr z))).trans ((oUp_j (fun z => hj (Or.inl z))).trans (congrFun (congrFun (oUp_k (by decide)) 0) j))
  have e2 : ∀ k, ¬ k = K_MOD → ¬ k = K_M_code → (oUp (oUp (oUp M K_M_code 0 C.length v) K_MOD 0 24 (nI (C.length + 1))) K_MOD 0 25 (nI (A + 1))) k = M k := fun k h1 h2 => (oUp_k h1).trans ((oUp_k h1).trans (oUp_k h2))
  refine ⟨⟨fun j hj => ?_, (e _ (by decide)).trans b2, (e _ (by decide)).trans b3, (e _ (by decide)).trans b4, (e _ (by decide)).trans b5, fun q => (e _ (by decide)).trans (b6 q), fun q => (e _ (by decide)).trans (b7 q), by rw [e 19 (by decide)]; exact b8⟩, (e _ (by decide)).trans h2, ⟨?_, fun j hj => ?_, (e _ (by decide)).trans c3, ySt_cg (by rw [e2 _ (by decide) (by decide)]) c4⟩, oUp_self, fun j hj => ?_⟩
  · rw [e2 _ (by decide) (by decide)]; exact b1 j hj
  · rw [List.length_append]
    exact (oUp_j (by decide)).trans oUp_self
  · rw [oUp_k (by decide), oUp_k (by decide)]
    rw [List.length_append] at hj
    have hj : j < C.length + 1 := hj
    by_cases hjc : j = C.length
    · rw [hjc, getD_app2]; exact oUp_self
    · rw [getD_app1 (by omega)]
      exact (oUp_j hjc).trans (c2 j (by omega))
  · rw [e2 _ (by decide) (by decide)]; exact h8 j hj
theorem c_Mod_takesPart (M : oM) (f : Nat → Int32) (n key p : Nat) (t : Tk) (C S : List Int32) (T : Nat → Bool) (A : Nat) (h : yMe M f n key p t C S T A) (h96 : n ≤ 96) (hv : Tv f n t) (hk : key < 3) (hl : C.length + S.length ≤ t.2.1) : oCt 2 k_Mod_takesPart [.inr (K_MOD, 0)] M (fun r M' => (∀ c, (t.1 = 2 ∧ c = sNum f t.2.1 (t.2.2 - t.2.1) ∨ isNm f key t ∧ c = -(f t.2.1)) → r = some 1 ∧ yMe M' f n key p (nxT f n t) (C ++ [trC key c] ++ S.takeWhile (stp 6)) (S.dropWhile (stp 6)) T (A + 1)) ∧ (¬ t.1 = 2 → ¬ isNm f key t → r = some 0 ∧ M' = M) ∧ yTf M M') := by
  have h4 := hv.2.2.1
  have hT := h.1
  have tail : ∀ (x : Int32) (c : Int32), (t.1 = 2 ∧ c = sNum f t.2.1 (t.2.2 - t.2.1) ∨ isNm f key t ∧ c = -(f t.2.1)) → oG k_Mod_takesPart 2 87 [some (.inr (K_MOD, 0)), some (.inl x)] [.inl (trC key c), .inl (nI C.length), .inr (K_M_code, 0)] M (fun r M' => (∀ c, (t.1 = 2 ∧ c = sNum f t.2.1 (t.2.2 - t.2.1) ∨ isNm f key t ∧ c = -(f t.2.1)) → r = some 1 ∧ yMe M' f n key p (nxT f n t) (C ++ [trC key c] ++ S.takeWhile (stp 6)) (S.dropWhile (stp 6)) T (A + 1)) ∧ (¬ t.1 = 2 → ¬ isNm f key t → r = some 0 ∧ M' = M) ∧ yTf M M') := by
    intro x c hc
    have h0 : t.1 = 1 ∨ t.1 = 2 := by
      rcases hc with y | y
      · exact Or.inr y.1
      · exact Or.inl y.1.1.1
    obtain ⟨a1, a2⟩ := hv.2.2.2.2.1 (by omega)
    have un : ∀ c', (t.1 = 2 ∧ c' = sNum f t.2.1 (t.2.2 - t.2.1) ∨ isNm f key t ∧ c' = -(f t.2.1)) → c' = c := by
      intro c' hc'
      rcases hc' with y | y <;> rcases hc with z | z
      · rw [y.2, z.2]
      · exact absurd z.1.1.1 (by omega)
      · exact absurd y.1.1.1 (by omega)
      · rw [y.2, z.2]
    have nn : ¬ t.1 = 2 → ¬ isNm f key t → False := fun q1 q2 => by
      rcases hc with z | z
      · exact q1 z.1
      · exact q2 z.1
    refine g_iast C.length rfl rfl rfl (by omega) ?_
    refine oRun_ok 14 rfl ?_
    rw [show oUp M K_M_code 0 C.length (trC key c) 31 0 24 = _ from h.2.2.1.1, nI_1]
    rw [show oUp (oUp M K_M_code 0 C.length (trC key c)) K_MOD 0 24 (nI (C.length + 1)) K_MOD 0 25 = nI A from h.2.2.2.1, nI_1]
    refine g_callV rfl rfl rfl rfl rfl mok_Mod_settle (by decide) (c_Msettle _ f n key p 6 t (C ++ [trC key c]) S T (A + 1) h.code (by decide) (by rw [List.length_append]; show C.length + 1 + S.length ≤ 96; omega)) ?_
    rintro r M1 ⟨rfl, h1, f1⟩
    refine oRun_ok 1 rfl ?_
    refine g_callV rfl rfl rfl rfl rfl mok_Mod_go (by decide) (c_Mgo _ f n key p t _ _ T (A + 1) h1 h96 hv (by omega)) ?_
    rintro r M2 ⟨rfl, h2, f2⟩
    refine oRun_ok 1 rfl ?_
    refine g_iret rfl rfl rfl ⟨fun c' hc' => ⟨rfl, by rw [un c' hc']; exact h2⟩, fun q1 q2 => (nn q1 q2).elim, ?_⟩
    exact ((((yTf.rf.k (Or.inl rfl)).m (by decide)).m (by decide)).tr f1).tr f2
  have p52 : ∀ (x : Int32), (t.1 = 2 ∨ isNm f key t) → oG k_Mod_takesPart 2 52 [some (.inr (K_MOD, 0)), some (.inl x)] [] M (fun r M' => (∀ c, (t.1 = 2 ∧ c = sNum f t.2.1 (t.2.2 - t.2.1) ∨ isNm f key t ∧ c = -(f t.2.1)) → r = some 1 ∧ yMe M' f n key p (nxT f n t) (C ++ [trC key c] ++ S.takeWhile (stp 6)) (S.dropWhile (stp 6)) T (A + 1)) ∧ (¬ t.1 = 2 → ¬ isNm f key t → r = some 0 ∧ M' = M) ∧ yTf M M') := by
    intro x hx
    refine oRun_ok 7 rfl ?_
    rw [show M 31 0 17 = _ from hT.2.2.2.2.1, show M 31 0 24 = _ from h.2.2.1.1]
    refine g_ic_ne rfl (fun z => ?_) (fun z => ?_)
    · have z : ¬ nI t.1 = nI 2 := z
      rw [nIe (by omega) (by omega)] at z
      have hn : isNm f key t := hx.resolve_left z
      refine oRun_ok 4 rfl ?_
      rw [show M 31 0 18 = _ from hT.2.2.2.2.2.1 (Or.inl hn.1.1)]
      refine g_callV rfl rfl rfl rfl rfl mok_Mod_nameOf (by decide) (c_Mod_nameOf M key (f t.2.1) h.2.1 hk) ?_
      rintro r M1 ⟨r1, r2, e⟩; rw [e]
      obtain ⟨v, rfl, v0, ev⟩ := r1 hn.2
      refine oRun_ok 1 rfl ?_
      rw [ev]
      exact tail x _ (Or.inr ⟨hn, rfl⟩)
    · have z : nI t.1 = nI 2 := z
      rw [nIe (by omega) (by omega)] at z
      refine oRun_ok 3 rfl ?_
      rw [show M 31 0 18 = _ from hT.2.2.2.2.2.2.1 z]
      have := tail x _ (Or.inl ⟨z, rfl⟩)
      rw [num_tr hv z] at this
      exact this
  have p36 : ¬ isNm f key t → oG k_Mod_takesPart 2 36 [some (.inr (K_MOD, 0)), none] [] M (fun r M' => (∀ c, (t.1 = 2 ∧ c = sNum f t.2.1 (t.2.2 - t.2.1) ∨ isNm f key t ∧ c = -(f t.2.1)) → r = some 1 ∧ yMe M' f n key p (nxT f n t) (C ++ [trC key c] ++ S.takeWhile (stp 6)) (S.dropWhile (stp 6)) T (A + 1)) ∧ (¬ t.1 = 2 → ¬ isNm f key t → r = some 0 ∧ M' = M) ∧ yTf M M') := by
    intro hn
    refine oRun_ok 5 rfl ?_
    rw [show M 31 0 17 = _ from hT.2.2.2.2.1]
    refine g_ic_eq rfl (fun z => ?_) (fun z => ?_)
    · have z : nI t.1 = nI 2 := z
      rw [nIe (by omega) (by omega)] at z
      exact p52 _ (Or.inl z)
    · have z : ¬ nI t.1 = nI 2 := z
      rw [nIe (by omega) (by omega)] at z
      refine oRun_ok 1 rfl ?_
      refine g_if_ne rfl (fun y => absurd rfl y) (fun _ => ?_)
      refine oRun_ok 1 rfl ?_
      refine g_iret rfl rfl rfl ⟨fun c hc => ?_, fun _ _ => ⟨rfl, rfl⟩, yTf.rf⟩
      rcases hc with y | y
      · exact absurd y.1 z
      · exact absurd y.1 hn
  refine oCt.of (ls := [some (.inr (K_MOD, 0)), none]) mok_Mod_takesPart rfl rfl ?_
  refine oRun_ok 3 rfl ?_
  rw [show M 31 0 17 = _ from hT.2.2.2.2.1]
  refine g_ic_ne rfl (fun z => ?_) (fun z => ?_)
  · have z : ¬ nI t.1 = nI 1 := z
    rw [nIe (by omega) (by omega)] at z
    exact p36 (fun q => z q.1.1)
  have z : nI t.1 = nI 1 := z
  rw [nIe (by omega) (by omega)] at z
  obtain ⟨a1, a2⟩ := hv.2.2.2.2.1 (by omega)
  have a3 := hv.2.1
  refine oRun_ok 6 rfl ?_
  rw [show M 31 0 15 = _ from hT.2.2.1, show M 31 0 16 = _ from hT.2.2.2.1, nIsub (by omega)]
  refine g_ic_ne rfl (fun y => ?_) (fun y => ?_)
  · have y : ¬ nI (t.2.2 - t.2.1) = nI 1 := y
    rw [nIe (by omega) (by omega)] at y
    exact p36 (fun q => y q.1.2)
  have y : nI (t.2.2 - t.2.1) = nI 1 := y
  rw [nIe (by omega) (by omega)] at y
  refine oRun_ok 3 rfl ?_
  rw [show M 31 0 18 = _ from hT.2.2.2.2.2.1 (Or.inl z)]
  refine g_callV rfl rfl rfl rfl rfl mok_Mod_nameOf (by decide) (c_Mod_nameOf M key (f t.2.1) h.2.1 hk) ?_
  rintro r M1 ⟨r1, r2, e⟩; rw [e]
  by_cases hn : nmB key (f t.2.1)
  · obtain ⟨v, rfl, v0, ev⟩ := r1 hn
    refine g_if_lt rfl (fun w => absurd (Int32.lt_of_lt_of_le w v0) Int32.lt_irrefl) (fun _ => ?_)
    refine oRun_ok 6 rfl ?_
    rw [show M 31 0 17 = _ from hT.2.2.2.2.1]
    refine g_ic_eq rfl (fun w => ?_) (fun w => ?_)
    · have w : nI t.1 = nI 2 := w
      rw [nIe (by omega) (by omega)] at w
      omega
    refine oRun_ok 1 rfl ?_
    refine g_if_ne rfl (fun _ => ?_) (fun w => absurd w (by decide))
    exact p52 _ (Or.inr ⟨⟨z, y⟩, hn⟩)
  · rw [r2 hn]
    refine g_if_lt rfl (fun _ => ?_) (fun w => absurd (by decide) w)
    exact p36 (fun q => hn q.2)

