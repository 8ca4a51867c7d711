/-! ## the model's reader: its state, its small methods -/
theorem oG_imp {k d pc : Nat} {ls : List (Option oV)} {st : List oV} {M : oM} {Q Q' : Option Int32 → oM → Prop} (h : oG k d pc ls st M Q) (hQ : ∀ r M', Q r M' → Q' r M') : oG k d pc ls st M Q' := by
  intro A p l e R s m args below meth c E H locs la cs sl Z C hE hR hS hP hlv h1 h2 h3
  exact h A p l e R s m args below meth c E H locs la cs sl Z C (fun r M' H locs pc la hq => hE r M' H locs pc la (hQ r M' hq)) hR hS hP hlv h1 h2 h3
def Ev (t : Tk) (en : Int32) : Prop := (t.1 = 1 ∨ t.1 = 2 → en = nI t.2.2) ∧ (t.1 = 3 → en = -1 ∨ ∃ e, e ≤ t.2.1 ∧ en = nI e)
def yMt (M : oM) (f : Nat → Int32) (n : Nat) (t : Tk) : Prop := (∀ j, j < n → M K_M_tape 0 j = f j) ∧ M K_MOD 0 14 = nI n ∧ M K_MOD 0 15 = nI t.2.2 ∧ M K_MOD 0 16 = nI t.2.1 ∧ M K_MOD 0 17 = nI t.1 ∧ (t.1 = 1 ∨ t.1 = 3 → M K_MOD 0 18 = f t.2.1) ∧ (t.1 = 2 → M K_MOD 0 18 = sNum f t.2.1 (t.2.2 - t.2.1)) ∧ Ev t (M K_MOD 0 19)
theorem go_t (M : oM) (f : Nat → Int32) (n : Nat) (t : Tk) (h : yMt M f n t) (h96 : n ≤ 96) (hv : t.2.2 ≤ n) (ha : t.1 = 3 → t.2.1 + 1 ≤ t.2.2) (ht : t.1 = 1 ∨ t.1 = 2 ∨ t.1 = 3) : oCt 1 k_Mod_go [.inr (K_MOD, 0)] M (fun r M' => r = none ∧ yMt M' f n (nxT f n t) ∧ (∀ j, ¬ (j = 15 ∨ j = 16 ∨ j = 17 ∨ j = 18 ∨ j = 19) → M' K_MOD 0 j = M K_MOD 0 j) ∧ oFr (oKs K_MOD) M M') := by
  obtain ⟨h1, h2, h3, h4, h5, h6, h7, h8, h9⟩ := h
  have hx := sSk_le f (n - t.2.2) t.2.2
  rw [show sSk f (n - t.2.2) t.2.2 = nxA f n t.2.2 from rfl] at hx
  have hnv := nxT_v (f := f) (t := t) hv
  refine (c_Mod_go M f n t.1 t.2.2 (M K_MOD 0 19) h1 h2 h96 h3 hv rfl (fun q => ?_)).imp ?_
  · rcases ht with y | y | y
    · rw [h8 (Or.inl y), nIe (by omega) (by omega)]
      exact ⟨fun z => ⟨Or.inl y, z⟩, fun z => z.2⟩
    · rw [h8 (Or.inr y), nIe (by omega) (by omega)]
      exact ⟨fun z => ⟨Or.inr y, z⟩, fun z => z.2⟩
    · have a1 := ha y
      refine ⟨fun z => ?_, fun z => absurd z.1 (by omega)⟩
      rcases h9 y with w | ⟨e, w1, w2⟩
      · rw [w] at z
        have := iEq.mp z
        rw [nIt (by omega)] at this
        have e1 : (-1 : Int32).toInt = -1 := rfl
        omega
      · rw [w2, nIe (by omega) (by omega)] at z
        omega
  · rintro r M' ⟨rfl, vl, en, hM, v1, v2, v3, v4⟩
    obtain ⟨m1, m2, m3, m4, m5, m6, m7⟩ := hM
    refine ⟨rfl, ⟨fun j hj => ?_, (m6 14 (by decide)).trans h2, m1, m2, m3, fun q => m4.trans (v1 q), fun q => m4.trans (v2 q), fun q => m5.trans (v3 q), fun q => ?_⟩, m6, m7⟩
    · rw [m7 K_M_tape 0 (show ¬ K_M_tape = K_MOD by decide)]
      exact h1 j hj
    · rw [m5, v4 q]
      rcases ht with y | y | y
      · exact Or.inr ⟨t.2.2, hnv.2, h8 (Or.inl y)⟩
      · exact Or.inr ⟨t.2.2, hnv.2, h8 (Or.inr y)⟩
      · have a1 := ha y
        rcases h9 y with w | ⟨e, w1, w2⟩
        · exact Or.inl w
        · exact Or.inr ⟨e, by omega, w2⟩
/-- the model's stack, its top first -/
def ySt (M : oM) : List Int32 → Prop
  | [] => True
  | x :: S => M K_M_waits 0 S.length = x ∧ ySt M S
theorem ySt_cg {M M' : oM} (h : M' K_M_waits 0 = M K_M_waits 0) : ∀ {S : List Int32}, ySt M S → ySt M' S
  | [], _ => True.intro
  | x :: S, q => ⟨(congrFun h _).trans q.1, ySt_cg h q.2⟩
theorem ySt_up {M : oM} {j : Nat} {v : Int32} : ∀ {S : List Int32}, S.length ≤ j → ySt M S → ySt (oUp M K_M_waits 0 j v) S
  | [], _, _ => True.intro
  | x :: S, hj, q => by
    have hj : S.length + 1 ≤ j := hj
    exact ⟨(oUp_j (by omega)).trans q.1, ySt_up (by omega) q.2⟩
theorem ySt_drop {M : oM} : ∀ {S : List Int32} (k : Nat), ySt M S → ySt M (S.drop k)
  | S, 0, q => q
  | [], k + 1, q => True.intro
  | x :: S, k + 1, q => ySt_drop k q.2
def yCS (M : oM) (C S : List Int32) : Prop := M K_MOD 0 24 = nI C.length ∧ (∀ j, j < C.length → M K_M_code 0 j = C.getD j 0) ∧ M K_MOD 0 27 = nI S.length ∧ ySt M S
def yMe (M : oM) (f : Nat → Int32) (n key p : Nat) (t : Tk) (C S : List Int32) (T : Nat → Bool) (A : Nat) : Prop := yMt M f n t ∧ M K_MOD 0 20 = nI key ∧ yCS M C S ∧ M K_MOD 0 25 = nI A ∧ ∀ j, j ≤ p → M K_M_tested 0 j = bI (T j)
def yTs : Nat → Nat → Prop := fun k _ => k = K_MOD ∨ k = K_M_code ∨ k = K_M_waits ∨ k = K_M_tested
def yTf (M M' : oM) : Prop := oFr yTs M M' ∧ ∀ j, ¬ (15 ≤ j ∧ j ≤ 27) → M' K_MOD 0 j = M K_MOD 0 j
theorem yTf.rf {M : oM} : yTf M M := ⟨oFr.rf, fun _ _ => rfl⟩
theorem yTf.tr {M M1 M2 : oM} (h : yTf M M1) (h2 : yTf M1 M2) : yTf M M2 := ⟨h.1.tr h2.1, fun j hj => (h2.2 j hj).trans (h.2 j hj)⟩
theorem yTf.m {M M1 : oM} {j : Nat} {v : Int32} (h : yTf M M1) (hj : 15 ≤ j ∧ j ≤ 27) : yTf M (oUp M1 K_MOD 0 j v) := ⟨h.1.up (Or.inl rfl), fun i hi => (oUp_j (fun e => hi (by rw [e]; exact hj))).trans (h.2 i hi)⟩
theorem yTf.k {M M1 : oM} {k j : Nat} {v : Int32} (h : yTf M M1) (hk : k = K_M_code ∨ k = K_M_waits ∨ k = K_M_tested) : yTf M (oUp M1 k 0 j v) := ⟨h.1.up (Or.inr hk), fun i hi => by
  rw [oUp_k (fun e => by rcases hk with y | y | y <;> rw [y] at e <;> exact absurd e (by decide))]
  exact h.2 i hi⟩
theorem c_Mgo (M : oM) (f : Nat → Int32) (n key p : Nat) (t : Tk) (C S : List Int32) (T : Nat → Bool) (A : Nat) (h : yMe M f n key p t C S T A) (h96 : n ≤ 96) (hv : Tv f n t) (ht : t.1 = 1 ∨ t.1 = 2 ∨ t.1 = 3) : oCt 1 k_Mod_go [.inr (K_MOD, 0)] M (fun r M' => r = none ∧ yMe M' f n key p (nxT f n t) C S T A ∧ yTf M M') := by
  obtain ⟨h1, h2, ⟨h3, h4, h5, h6⟩, h7, h8⟩ := h
  refine (go_t M f n t h1 h96 hv.2.1 (fun q => by have := hv.2.2.2.2.2.1 q; omega) ht).imp ?_
  rintro r M' ⟨rfl, q1, q2, q3⟩
  have e : ∀ k, ¬ k = K_MOD → M' k 0 = M k 0 := fun k hk => q3 k 0 hk
  refine ⟨rfl, ⟨q1, (q2 20 (by decide)).trans h2, ⟨(q2 24 (by decide)).trans h3, fun j hj => ?_, (q2 27 (by decide)).trans h5, ySt_cg (e _ (by decide)) h6⟩, (q2 25 (by decide)).trans h7, fun j hj => ?_⟩, q3.mono (fun k i z => Or.inl z), fun j hj => q2 j (by omega)⟩
  · rw [e _ (by decide)]; exact h4 j hj
  · rw [e _ (by decide)]; exact h8 j hj
theorem c_Mod_settle (r : Nat) (hr : r ≤ 6) : ∀ (S C : List Int32) (M : oM), yCS M C S → C.length + S.length ≤ 96 → oG k_Mod_settle 1 0 [some (.inr (K_MOD, 0)), some (.inl (nI r))] [] M (fun v M' => v = none ∧ yCS M' (C ++ S.takeWhile (stp r)) (S.dropWhile (stp r)) ∧ oFr (fun k _ => k = K_MOD ∨ k = K_M_code) M M' ∧ ∀ j, ¬ (j = 24 ∨ j = 27) → M' K_MOD 0 j = M K_MOD 0 j)
  | [], C, M, h, hl => by
    refine oRun_ok 2 rfl ?_
    rw [show M 31 0 27 = _ from h.2.2.1]
    refine g_if_le rfl (fun _ => ?_) (fun z => absurd (by decide) z)
    exact g_ret rfl rfl ⟨rfl, by rw [show ([] : List Int32).takeWhile (stp r) = [] from rfl, List.append_nil]; exact h, oFr.rf, fun _ _ => rfl⟩
  | x :: S, C, M, h, hl => by
    obtain ⟨h1, h2, h3, h4, h5⟩ := h
    have hl' : C.length + (S.length + 1) ≤ 96 := hl
    have h3 : M K_MOD 0 27 = nI (S.length + 1) := h3
    have stop : stp r x = false → ∀ (Q : Prop), (yCS M (C ++ (x :: S).takeWhile (stp r)) ((x :: S).dropWhile (stp r)) ∧ oFr (fun k _ => k = K_MOD ∨ k = K_M_code) M M ∧ (∀ j, ¬ (j = 24 ∨ j = 27) → M K_MOD 0 j = M K_MOD 0 j) → Q) → Q := fun hs Q k => k (by
      rw [List.takeWhile_cons_of_neg (by rw [hs]; decide), List.dropWhile_cons_of_neg (by rw [hs]; decide), List.append_nil]
      exact ⟨⟨h1, h2, h3, h4, h5⟩, oFr.rf, fun _ _ => rfl⟩)
    refine oRun_ok 2 rfl ?_
    rw [show M 31 0 27 = _ from h3]
    refine g_if_le rfl (fun z => ?_) (fun _ => ?_)
    · have z : nI (S.length + 1) ≤ nI 0 := z
      rw [nIle (by omega) (by omega)] at z
      omega
    refine oRun_ok 6 rfl ?_
    rw [show M 31 0 27 = _ from h3, show (1 : Int32) = nI 1 from rfl, nIsub (by omega), Nat.add_sub_cancel]
    refine g_iald S.length rfl rfl rfl (by omega) ?_
    rw [show M 47 0 S.length = _ from h4]
    refine oRun_ok 1 rfl ?_
    refine g_ic_eq rfl (fun z => ?_) (fun z => ?_)
    · exact stop (decide_eq_false (fun q => q.1 z)) _ (fun q => g_ret rfl rfl ⟨rfl, q⟩)
    refine oRun_ok 6 rfl ?_
    rw [show M 31 0 27 = _ from h3, show (1 : Int32) = nI 1 from rfl, nIsub (by omega), Nat.add_sub_cancel]
    refine g_iald S.length rfl rfl rfl (by omega) ?_
    rw [show M 47 0 S.length = _ from h4]
    refine g_callS rfl rfl rfl rfl mok_Mod_rank (by decide) (c_Mod_rank M x) ?_
    rintro v M' ⟨rfl, e⟩; rw [e]
    refine oRun_ok 1 rfl ?_
    refine g_ic_lt rfl (fun y => ?_) (fun y => ?_)
    · exact stop (decide_eq_false (fun q => absurd (Int32.lt_of_lt_of_le y q.2) Int32.lt_irrefl)) _ (fun q => g_ret rfl rfl ⟨rfl, q⟩)
    have hs : stp r x = true := decide_eq_true ⟨z, Int32.not_lt.mp y⟩
    refine oRun_ok 14 rfl ?_
    rw [show M 31 0 27 = _ from h3, show (1 : Int32) = nI 1 from rfl, nIsub (by omega), Nat.add_sub_cancel]
    rw [show oUp M K_MOD 0 27 (nI S.length) K_MOD 0 27 = nI S.length from oUp_self, show oUp M K_MOD 0 27 (nI S.length) K_MOD 0 24 = nI C.length from (oUp_j (by decide)).trans h1]
    refine g_iald S.length rfl rfl rfl (by omega) ?_
    refine g_iast C.length rfl rfl rfl (by omega) ?_
    rw [show oUp M K_MOD 0 27 (nI S.length) 47 0 S.length = x from (congrFun (congrFun (oUp_k (by decide)) 0) _).trans h4]
    refine oRun_ok 7 rfl ?_
    generalize hM : oUp (oUp M K_MOD 0 27 (nI S.length)) 46 0 C.length x = M1
    have e24 : M1 31 0 24 = nI C.length := by rw [← hM]; exact (congrFun (congrFun (oUp_k (by decide)) 0) 24).trans ((oUp_j (by decide)).trans h1)
    rw [e24, nI_1]
    have fM : oFr (fun k _ => k = K_MOD ∨ k = K_M_code) M (oUp M1 31 0 24 (nI (C.length + 1))) := by
      rw [← hM]
      exact ((oFr.rf.up (Or.inl rfl)).up (Or.inr rfl)).up (Or.inl rfl)
    have fJ : ∀ j, ¬ (j = 24 ∨ j = 27) → (oUp M1 31 0 24 (nI (C.length + 1))) K_MOD 0 j = M K_MOD 0 j := fun j hj => by
      rw [← hM]
      exact (oUp_j (fun q => hj (Or.inl q))).trans ((congrFun (congrFun (oUp_k (by decide)) 0) j).trans (oUp_j (fun q => hj (Or.inr q))))
    have inv : yCS (oUp M1 31 0 24 (nI (C.length + 1))) (C ++ [x]) S := by
      refine ⟨oUp_self.trans (by rw [List.length_append]; rfl), fun j hj => ?_, ?_, ySt_cg ?_ h5⟩
      · rw [oUp_k (by decide), ← hM]
        rw [List.length_append] at hj
        by_cases hjc : j = C.length
        · rw [hjc, getD_app2]; exact oUp_self
        · have hj : j < C.length + 1 := hj
          rw [getD_app1 (by omega)]
          exact (oUp_j hjc).trans ((congrFun (congrFun (oUp_k (by decide)) 0) j).trans (h2 j (by omega)))
      · rw [← hM]
        exact (oUp_j (by decide)).trans ((congrFun (congrFun (oUp_k (by decide)) 0) 27).trans oUp_self)
      · rw [oUp_k (by decide), ← hM, oUp_k (by decide), oUp_k (by decide)]
    refine oG_imp (c_Mod_settle r hr S (C ++ [x]) _ inv (by rw [List.length_append]; show C.length + 1 + S.length ≤ 96; omega)) ?_
    rintro v M' ⟨rfl, a1, a2, a3⟩
    rw [List.takeWhile_cons_of_pos hs, List.dropWhile_cons_of_pos hs]
    rw [List.append_assoc] at a1
    exact ⟨rfl, a1, fM.tr a2, fun j hj => (a3 j hj).trans (fJ j hj)⟩
theorem c_Msettle (M : oM) (f : Nat → Int32) (n key p r : Nat) (t : Tk) (C S : List Int32) (T : Nat → Bool) (A : Nat) (h : yMe M f n key p t C S T A) (hr : r ≤ 6) (hl : C.length + S.length ≤ 96) : oCt 1 k_Mod_settle [.inr (K_MOD, 0), .inl (nI r)] M (fun v M' => v = none ∧ yMe M' f n key p t (C ++ S.takeWhile (stp r)) (S.dropWhile (stp r)) T A ∧ yTf M M') := by
  obtain ⟨⟨b1, b2, b3, b4, b5, b6, b7, b8⟩, h2, h3, h7, h8⟩ := h
  refine oCt.of (ls := [some (.inr (K_MOD, 0)), some (.inl (nI r))]) mok_Mod_settle rfl rfl ?_
  refine oG_imp (c_Mod_settle r hr S C M h3 hl) ?_
  rintro v M' ⟨rfl, a1, a2, a3⟩
  have e : ∀ k, ¬ (k = K_MOD ∨ k = K_M_code) → M' k 0 = M k 0 := fun k hk => a2 k 0 hk
  refine ⟨rfl, ⟨⟨fun j hj => ?_, (a3 _ (by decide)).trans b2, (a3 _ (by decide)).trans b3, (a3 _ (by decide)).trans b4, (a3 _ (by decide)).trans b5, fun q => (a3 _ (by decide)).trans (b6 q), fun q => (a3 _ (by decide)).trans (b7 q), by rw [a3 19 (by decide)]; exact b8⟩, (a3 _ (by decide)).trans h2, a1, (a3 _ (by decide)).trans h7, fun j hj => ?_⟩, a2.mono (fun k i z => z.elim Or.inl (fun y => Or.inr (Or.inl y))), fun j hj => a3 j (by omega)⟩
  · rw [e _ (by decide)]; exact b1 j hj
  · rw [e _ (by decide)]; exact h8 j hj

