/-! ## the model takes a part -/
theorem c_Mod_notsOpen (M : oM) (S : List Int32) (h27 : M K_MOD 0 27 = nI S.length) (hS : ySt M S) (hl : S.length ≤ 96) : oCt 0 k_Mod_notsOpen [.inr (K_MOD, 0)] M (fun r M' => r = some (nI (nO S)) ∧ M' = M) := by
  refine oCt.of (ls := [some (.inr (K_MOD, 0)), none, none]) mok_Mod_notsOpen rfl rfl ?_
  refine oRun_ok 4 rfl ?_
  have loop : ∀ (q i : Nat), i + q = S.length → oG k_Mod_notsOpen 0 4 [some (.inr (K_MOD, 0)), some (.inl (nI (nO (S.drop (S.length - i))))), some (.inl (nI i))] [] M (fun r M' => r = some (nI (nO S)) ∧ M' = M) := by
    intro q
    induction q with
    | zero =>
      intro i hi
      refine oRun_ok 3 rfl ?_
      rw [show M 31 0 27 = _ from h27]
      refine g_ic_ge rfl (fun _ => ?_) (fun z => absurd ((nIle (by omega) (by omega)).mpr (by omega)) z)
      refine oRun_ok 1 rfl ?_
      exact g_iret rfl rfl rfl ⟨by rw [show S.length - i = 0 by omega, List.drop_zero], rfl⟩
    | succ q ih =>
      intro i hi
      have hlt : S.length - (i + 1) < S.length := by omega
      have ed := List.drop_eq_getElem_cons hlt
      rw [show S.length - (i + 1) + 1 = S.length - i by omega] at ed
      have hw := ySt_drop (S.length - (i + 1)) hS
      rw [ed] at hw
      have hw1 : M 47 0 i = S[S.length - (i + 1)] := by
        have := hw.1
        rw [List.length_drop, show S.length - (S.length - i) = i by omega] at this
        exact this
      have nx := ih (i + 1) (by omega)
      rw [ed] at nx
      refine oRun_ok 3 rfl ?_
      rw [show M 31 0 27 = _ from h27]
      refine g_ic_ge rfl (fun z => ?_) (fun _ => ?_)
      · rw [nIle (by omega) (by omega)] at z
        omega
      refine oRun_ok 4 rfl ?_
      refine g_iald i rfl rfl rfl (by omega) ?_
      rw [hw1]
      refine oRun_ok 1 rfl ?_
      refine g_ic_ne rfl (fun z => ?_) (fun z => ?_)
      · refine oRun_ok 5 rfl ?_
        rw [nI_1, show (0 : Int32) = nI 0 from rfl, nI_plus, Nat.add_zero]
        rw [nO_cons z] at nx
        exact nx
      · refine oRun_ok 6 rfl ?_
        rw [nI_1, nI_1]
        rw [show S[S.length - (i + 1)] = -10 from z, nO_not] at nx
        exact nx
  have := loop S.length 0 (by omega)
  rw [Nat.sub_zero, List.drop_length] at this
  exact this
theorem c_Mod_nameOf (M : oM) (key : Nat) (c : Int32) (h : M K_MOD 0 20 = nI key) (hk : key < 3) : oCt 0 k_Mod_nameOf [.inr (K_MOD, 0), .inl c] M (fun r M' => (nmB key c → ∃ v, r = some v ∧ 0 ≤ v ∧ 10000 + v = trC key (-c)) ∧ (¬ nmB key c → r = some (-1)) ∧ M' = M) := by
  have e1 : nI key = 1 ↔ key = 1 := nIe (b := 1) (by omega) (by omega)
  have e2 : nI key = 2 ↔ key = 2 := nIe (b := 2) (by omega) (by omega)
  refine oCt.of (ls := [some (.inr (K_MOD, 0)), some (.inl c)]) mok_Mod_nameOf rfl rfl ?_
  refine oRun_ok 2 rfl ?_
  refine g_ic_ne rfl (fun h3 => ?_) (fun h3 => ?_)
  · have no : ¬ (key = 1 ∧ c = 115) → ¬ (key = 2 ∧ c = 110) → ¬ (key = 2 ∧ c = 99) → ((nmB key c → ∃ v, some (-1 : Int32) = some v ∧ 0 ≤ v ∧ 10000 + v = trC key (-c)) ∧ (¬ nmB key c → some (-1 : Int32) = some (-1)) ∧ M = M) := fun n1 n2 n3 => ⟨fun z => (by rcases z with y | y | ⟨y, w | w⟩; exact absurd y n1; exact absurd y h3; exact absurd ⟨y, w⟩ n2; exact absurd ⟨y, w⟩ n3), fun _ => rfl, rfl⟩
    have y1 : nI key = 1 → c = 115 → ((nmB key c → ∃ v, some (1 : Int32) = some v ∧ 0 ≤ v ∧ 10000 + v = trC key (-c)) ∧ (¬ nmB key c → some (1 : Int32) = some (-1)) ∧ M = M) := fun a b => ⟨fun _ => ⟨1, rfl, by decide, by rw [b, e1.mp a]; rfl⟩, fun z => absurd (Or.inl ⟨e1.mp a, b⟩) z, rfl⟩
    have y2 : nI key = 2 → c = 110 → ((nmB key c → ∃ v, some (1 : Int32) = some v ∧ 0 ≤ v ∧ 10000 + v = trC key (-c)) ∧ (¬ nmB key c → some (1 : Int32) = some (-1)) ∧ M = M) := fun a b => ⟨fun _ => ⟨1, rfl, by decide, by rw [b, e2.mp a]; rfl⟩, fun z => absurd (Or.inr (Or.inr ⟨e2.mp a, Or.inl b⟩)) z, rfl⟩
    have y3 : nI key = 2 → c = 99 → ((nmB key c → ∃ v, some (2 : Int32) = some v ∧ 0 ≤ v ∧ 10000 + v = trC key (-c)) ∧ (¬ nmB key c → some (2 : Int32) = some (-1)) ∧ M = M) := fun a b => ⟨fun _ => ⟨2, rfl, by decide, by rw [b, e2.mp a]; rfl⟩, fun z => absurd (Or.inr (Or.inr ⟨e2.mp a, Or.inr b⟩)) z, rfl⟩
    refine oRun_ok 3 rfl ?_
    rw [show M 31 0 20 = _ from h]
    refine g_ic_ne rfl (fun h13 => ?_) (fun h13 => ?_)
    · have n1 : ¬ (key = 1 ∧ c = 115) := fun z => h13 (e1.mpr z.1)
      refine oRun_ok 3 rfl ?_
      rw [show M 31 0 20 = _ from h]
      refine g_ic_ne rfl (fun h27 => ?_) (fun h27 => ?_)
      · have n2 : ¬ (key = 2 ∧ c = 110) := fun z => h27 (e2.mpr z.1)
        refine oRun_ok 3 rfl ?_
        rw [show M 31 0 20 = _ from h]
        refine g_ic_ne rfl (fun h45 => ?_) (fun h45 => ?_)
        · have n3 : ¬ (key = 2 ∧ c = 99) := fun z => h45 (e2.mpr z.1)
          refine oRun_ok 1 rfl ?_
          exact g_iret rfl rfl rfl (by first | exact no n1 n2 n3 | exact y1 h13 h19 | exact y2 h27 h33 | exact y3 h45 h51)
        · refine oRun_ok 2 rfl ?_
          refine g_ic_ne rfl (fun h51 => ?_) (fun h51 => ?_)
          · have n3 : ¬ (key = 2 ∧ c = 99) := fun z => h51 z.2
            refine oRun_ok 1 rfl ?_
            exact g_iret rfl rfl rfl (by first | exact no n1 n2 n3 | exact y1 h13 h19 | exact y2 h27 h33 | exact y3 h45 h51)
          · refine oRun_ok 2 rfl ?_
            exact g_iret rfl rfl rfl (by first | exact no n1 n2 n3 | exact y1 h13 h19 | exact y2 h27 h33 | exact y3 h45 h51)
      · refine oRun_ok 2 rfl ?_
        refine g_ic_ne rfl (fun h33 => ?_) (fun h33 => ?_)
        · have n2 : ¬ (key = 2 ∧ c = 110) := fun z => h33 z.2
          refine oRun_ok 3 rfl ?_
          rw [show M 31 0 20 = _ from h]
          refine g_ic_ne rfl (fun h45 => ?_) (fun h45 => ?_)
          · have n3 : ¬ (key = 2 ∧ c = 99) := fun z => h45 (e2.mpr z.1)
            refine oRun_ok 1 rfl ?_
            exact g_iret rfl rfl rfl (by first | exact no n1 n2 n3 | exact y1 h13 h19 | exact y2 h27 h33 | exact y3 h45 h51)
          · refine oRun_ok 2 rfl ?_
            refine g_ic_ne rfl (fun h51 => ?_) (fun h51 => ?_)
            · have n3 : ¬ (key = 2 ∧ c = 99) := fun z => h51 z.2
              refine oRun_ok 1 rfl ?_
              exact g_iret rfl rfl rfl (by first | exact no n1 n2 n3 | exact y1 h13 h19 | exact y2 h27 h33 | exact y3 h45 h51)
            · refine oRun_ok 2 rfl ?_
              exact g_iret rfl rfl rfl (by first | exact no n1 n2 n3 | exact y1 h13 h19 | exact y2 h27 h33 | exact y3 h45 h51)
        · refine oRun_ok 2 rfl ?_
          exact g_iret rfl rfl rfl (by first | exact no n1 n2 n3 | exact y1 h13 h19 | exact y2 h27 h33 | exact y3 h45 h51)
    · refine oRun_ok 2 rfl ?_
      refine g_ic_eq rfl (fun h19 => ?_) (fun h19 => ?_)
      · refine oRun_ok 2 rfl ?_
        exact g_iret rfl rfl rfl (by first | exact no n1 n2 n3 | exact y1 h13 h19 | exact y2 h27 h33 | exact y3 h45 h51)
      · have n1 : ¬ (key = 1 ∧ c = 115) := fun z => h19 z.2
        refine oRun_ok 3 rfl ?_
        rw [show M 31 0 20 = _ from h]
        refine g_ic_ne rfl (fun h27 => ?_) (fun h27 => ?_)
        · have n2 : ¬ (key = 2 ∧ c = 110) := fun z => h27 (e2.mpr z.1)
          refine oRun_ok 3 rfl ?_
          rw [show M 31 0 20 = _ from h]
          refine g_ic_ne rfl (fun h45 => ?_) (fun h45 => ?_)
          · have n3 : ¬ (key = 2 ∧ c = 99) := fun z => h45 (e2.mpr z.1)
            refine oRun_ok 1 rfl ?_
            exact g_iret rfl rfl rfl (by first | exact no n1 n2 n3 | exact y1 h13 h19 | exact y2 h27 h33 | exact y3 h45 h51)
          · refine oRun_ok 2 rfl ?_
            refine g_ic_ne rfl (fun h51 => ?_) (fun h51 => ?_)
            · have n3 : ¬ (key = 2 ∧ c = 99) := fun z => h51 z.2
              refine oRun_ok 1 rfl ?_
              exact g_iret rfl rfl rfl (by first | exact no n1 n2 n3 | exact y1 h13 h19 | exact y2 h27 h33 | exact y3 h45 h51)
            · refine oRun_ok 2 rfl ?_
              exact g_iret rfl rfl rfl (by first | exact no n1 n2 n3 | exact y1 h13 h19 | exact y2 h27 h33 | exact y3 h45 h51)
        · refine oRun_ok 2 rfl ?_
          refine g_ic_ne rfl (fun h33 => ?_) (fun h33 => ?_)
          · have n2 : ¬ (key = 2 ∧ c = 110) := fun z => h33 z.2
            refine oRun_ok 3 rfl ?_
            rw [show M 31 0 20 = _ from h]
            refine g_ic_ne rfl (fun h45 => ?_) (fun h45 => ?_)
            · have n3 : ¬ (key = 2 ∧ c = 99) := fun z => h45 (e2.mpr z.1)
              refine oRun_ok 1 rfl ?_
              exact g_iret rfl rfl rfl (by first | exact no n1 n2 n3 | exact y1 h13 h19 | exact y2 h27 h33 | exact y3 h45 h51)
            · refine oRun_ok 2 rfl ?_
              refine g_ic_ne rfl (fun h51 => ?_) (fun h51 => ?_)
              · have n3 : ¬ (key = 2 ∧ c = 99) := fun z => h51 z.2
                refine oRun_ok 1 rfl ?_
                exact g_iret rfl rfl rfl (by first | exact no n1 n2 n3 | exact y1 h13 h19 | exact y2 h27 h33 | exact y3 h45 h51)
              · refine oRun_ok 2 rfl ?_
                exact g_iret rfl rfl rfl (by first | exact no n1 n2 n3 | exact y1 h13 h19 | exact y2 h27 h33 | exact y3 h45 h51)
          · refine oRun_ok 2 rfl ?_
            exact g_iret rfl rfl rfl (by first | exact no n1 n2 n3 | exact y1 h13 h19 | exact y2 h27 h33 | exact y3 h45 h51)
  · refine oRun_ok 1 rfl ?_
    exact g_iret rfl rfl rfl ⟨fun _ => ⟨0, rfl, by decide, by rw [h3]; rfl⟩, fun z => absurd (Or.inr (Or.inl h3)) z, rfl⟩
theorem jn_c {f : Nat → Int32} {lev : Nat} {t : Tk} (hl : lev < 5) (h : jn f lev t = true) : ∃ c, f t.2.1 = c ∧ c ∈ ([38, 42, 43, 45, 47, 60, 61, 62, 124] : List Int32) := by
  have s : ∀ c, sgn f t c = true → f t.2.1 = c := fun c hc => (of_decide_eq_true hc).2
  unfold jn at h
  split at h
  · exact ⟨_, s _ h, by decide⟩
  · exact ⟨_, s _ h, by decide⟩
  · rw [Bool.or_eq_true, Bool.or_eq_true] at h
    rcases h with h | h | h <;> exact ⟨_, s _ h, by decide⟩
  · rw [Bool.or_eq_true] at h
    rcases h with h | h <;> exact ⟨_, s _ h, by decide⟩
  · rw [Bool.or_eq_true] at h
    rcases h with h | h <;> exact ⟨_, s _ h, by decide⟩
theorem c_Mod_signHere (M : oM) (f : Nat → Int32) (n key : Nat) (t : Tk) (h : yMt M f n t) (h4 : t.1 ≤ 4) : oCt 0 k_Mod_signHere [.inr (K_MOD, 0)] M (fun r M' => (∀ lev, lev < 5 → jn f lev t = true → r = some (opC f key t)) ∧ ((∀ lev, lev < 5 → jn f lev t = false) → r = some 0) ∧ M' = M) := by
  have no : ¬ t.1 = 3 → ∀ lev, jn f lev t = true → False := fun z lev y => z (jn_3 y)
  have ch : ∀ c, t.1 = 3 → f t.2.1 = c → sgn f t c = true := fun c a b => decide_eq_true ⟨a, b⟩
  have yes : ∀ (c v : Int32) (lev : Nat), f t.2.1 = c → trC key (-c) = v → lev < 5 → jn f lev t = true → ((∀ lev, lev < 5 → jn f lev t = true → some v = some (opC f key t)) ∧ ((∀ lev, lev < 5 → jn f lev t = false) → some v = some 0) ∧ M = M) := fun c v lev e1 e2 hl hj => ⟨fun _ _ _ => by unfold opC; rw [e1, e2], fun z => absurd ((z lev hl).symm.trans hj) (by decide), rfl⟩
  refine oCt.of (ls := [some (.inr (K_MOD, 0))]) mok_Mod_signHere rfl rfl ?_
  refine oRun_ok 3 rfl ?_
  rw [show M 31 0 17 = _ from h.2.2.2.2.1]
  refine g_ic_eq rfl (fun h5 => ?_) (fun h5 => ?_)
  · have h5 : nI t.1 = nI 3 := h5
    rw [nIe (by omega) (by omega)] at h5
    refine oRun_ok 2 rfl ?_
    rw [show M 31 0 18 = _ from h.2.2.2.2.2.1 (Or.inr h5)]
    refine g_lsw [(38, 98), (42, 116), (43, 110), (45, 113), (47, 119), (60, 101), (61, 104), (62, 107), (124, 96)] 122 rfl (by decide +kernel) (by decide +kernel) rfl ⟨fun h14 => ?_, fun h14 => ?_, fun h14 => ?_, fun h14 => ?_, fun h14 => ?_, fun h14 => ?_, fun h14 => ?_, fun h14 => ?_, fun h14 => ?_, trivial⟩ (fun h14 => ?_)
    · refine oRun_ok 1 rfl ?_
      exact g_iret rfl rfl rfl (yes 38 (-2) 1 h14 rfl (by decide) (ch _ h5 h14))
    · refine oRun_ok 1 rfl ?_
      exact g_iret rfl rfl rfl (yes 42 (-8) 4 h14 rfl (by decide) (by show (sgn f t 42 || sgn f t 47) = true; rw [ch _ h5 h14]; rfl))
    · refine oRun_ok 1 rfl ?_
      exact g_iret rfl rfl rfl (yes 43 (-6) 3 h14 rfl (by decide) (by show (sgn f t 43 || sgn f t 45) = true; rw [ch _ h5 h14]; rfl))
    · refine oRun_ok 1 rfl ?_
      exact g_iret rfl rfl rfl (yes 45 (-7) 3 h14 rfl (by decide) (by show (sgn f t 43 || sgn f t 45) = true; rw [ch _ h5 h14, Bool.or_true]))
    · refine oRun_ok 1 rfl ?_
      exact g_iret rfl rfl rfl (yes 47 (-9) 4 h14 rfl (by decide) (by show (sgn f t 42 || sgn f t 47) = true; rw [ch _ h5 h14, Bool.or_true]))
    · refine oRun_ok 1 rfl ?_
      exact g_iret rfl rfl rfl (yes 60 (-3) 2 h14 rfl (by decide) (by show (sgn f t 60 || (sgn f t 61 || sgn f t 62)) = true; rw [ch _ h5 h14]; rfl))
    · refine oRun_ok 1 rfl ?_
      exact g_iret rfl rfl rfl (yes 61 (-4) 2 h14 rfl (by decide) (by show (sgn f t 60 || (sgn f t 61 || sgn f t 62)) = true; rw [ch _ h5 h14, Bool.true_or, Bool.or_true]))
    · refine oRun_ok 1 rfl ?_
      exact g_iret rfl rfl rfl (yes 62 (-5) 2 h14 rfl (by decide) (by show (sgn f t 60 || (sgn f t 61 || sgn f t 62)) = true; rw [ch _ h5 h14, Bool.or_true, Bool.or_true]))
    · refine oRun_ok 1 rfl ?_
      exact g_iret rfl rfl rfl (yes 124 (-1) 0 h14 rfl (by decide) (ch _ h5 h14))
    · refine oRun_ok 1 rfl ?_
      refine g_iret rfl rfl rfl ⟨fun lev hl y => (by
        have nn : ∀ c, f t.2.1 = c → c ∈ ([38, 42, 43, 45, 47, 60, 61, 62, 124] : List Int32) → False := fun c e hc => by
          simp only [List.mem_cons, List.not_mem_nil, or_false] at hc
          rcases hc with hc | hc | hc | hc | hc | hc | hc | hc | hc
          · exact h14 (38, 98) (by decide) (e.trans hc)
          · exact h14 (42, 116) (by decide) (e.trans hc)
          · exact h14 (43, 110) (by decide) (e.trans hc)
          · exact h14 (45, 113) (by decide) (e.trans hc)
          · exact h14 (47, 119) (by decide) (e.trans hc)
          · exact h14 (60, 101) (by decide) (e.trans hc)
          · exact h14 (61, 104) (by decide) (e.trans hc)
          · exact h14 (62, 107) (by decide) (e.trans hc)
          · exact h14 (124, 96) (by decide) (e.trans hc)
        obtain ⟨c, ec, hc⟩ := jn_c hl y
        exact (nn c ec hc).elim), fun _ => rfl, rfl⟩
  · have h5 : ¬ nI t.1 = nI 3 := h5
    rw [nIe (by omega) (by omega)] at h5
    refine oRun_ok 1 rfl ?_
    exact g_iret rfl rfl rfl ⟨fun lev _ y => absurd y (fun y => no h5 lev y), fun _ => rfl, rfl⟩
theorem num_tr {f : Nat → Int32} {n key : Nat} {t : Tk} (hv : Tv f n t) (h2 : t.1 = 2) : trC key (sNum f t.2.1 (t.2.2 - t.2.1)) = sNum f t.2.1 (t.2.2 - t.2.1) := by
  obtain ⟨-, b2, b3⟩ := hv.2.2.2.2.2.2.2 h2
  obtain ⟨m, e, hm⟩ := sNum_ok f t.2.1 (t.2.2 - t.2.1) b2 (fun j a b => b3 j a (by omega))
  have h10 : 10 ^ (t.2.2 - t.2.1) ≤ 10000 := Nat.pow_le_pow_right (n := 10) (by decide) b2
  rw [e]
  exact tr_lit ((if_pos ((nIle (a := 0) (by omega) (by omega)).mpr (Nat.zero_le _))).trans (if_pos ((nIle (b := 9999) (by omega) (by omega)).mpr (by omega))))

