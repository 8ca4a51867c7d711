/-! ===== how a text is read ===== -/
abbrev Tk : Type := Nat × Nat × Nat
abbrev Rs : Type := Bool × Tk × List Int32 × Nat
def nxT (f : Nat → Int32) (n : Nat) (t : Tk) : Tk := nx f n t.1 t.2.2
def Tv (f : Nat → Int32) (n : Nat) (t : Tk) : Prop := t.2.1 ≤ n ∧ t.2.2 ≤ n ∧ t.1 ≤ 4 ∧ (t.1 = 0 → t.2.1 = n ∧ t.2.2 = n) ∧ (¬ t.1 = 0 → t.2.1 < n ∧ t.2.1 + 1 ≤ t.2.2) ∧ (t.1 = 3 → t.2.2 = t.2.1 + 1 ∧ srt (f t.2.1) = 3) ∧ (t.1 = 1 → srt (f t.2.1) = 1) ∧ (t.1 = 2 → srt (f t.2.1) = 2 ∧ t.2.2 - t.2.1 ≤ 4 ∧ ∀ k, t.2.1 ≤ k → k < t.2.2 → srt (f k) = 2)
theorem nxT_v {f : Nat → Int32} {n : Nat} {t : Tk} (h : t.2.2 ≤ n) : Tv f n (nxT f n t) ∧ t.2.2 ≤ (nxT f n t).2.1 := by
  obtain ⟨a1, a2, a3, a4, a5, a6, a7, a8, a9⟩ := nx_ok f t.1 h
  exact ⟨⟨a2, a3, a4, a5, a6, a7, a8, a9⟩, a1⟩
def sgn (f : Nat → Int32) (t : Tk) (c : Int32) : Bool := decide (t.1 = 3 ∧ f t.2.1 = c)
def nmB (key : Nat) (c : Int32) : Prop := (key = 1 ∧ c = 115) ∨ c = 121 ∨ (key = 2 ∧ (c = 110 ∨ c = 99))
def isNm (f : Nat → Int32) (key : Nat) (t : Tk) : Prop := (t.1 = 1 ∧ t.2.2 - t.2.1 = 1) ∧ nmB key (f t.2.1)
def jn (f : Nat → Int32) (lev : Nat) (t : Tk) : Bool := match lev with
  | 0 => sgn f t 124
  | 1 => sgn f t 38
  | 2 => sgn f t 60 || (sgn f t 61 || sgn f t 62)
  | 3 => sgn f t 43 || sgn f t 45
  | _ => sgn f t 42 || sgn f t 47
theorem jn_3 {f : Nat → Int32} {lev : Nat} {t : Tk} (h : jn f lev t = true) : t.1 = 3 := by
  have s : ∀ c, sgn f t c = true → t.1 = 3 := fun c hc => (of_decide_eq_true hc).1
  unfold jn at h
  split at h
  · exact s _ h
  · exact s _ h
  · rw [Bool.or_eq_true, Bool.or_eq_true] at h
    rcases h with h | h | h <;> exact s _ h
  · rw [Bool.or_eq_true] at h
    rcases h with h | h <;> exact s _ h
  · rw [Bool.or_eq_true] at h
    rcases h with h | h <;> exact s _ h
noncomputable def pA (f : Nat → Int32) (n key : Nat) (t : Tk) : Rs := by
  classical
  exact if t.1 = 2 then (true, nxT f n t, [sNum f t.2.1 (t.2.2 - t.2.1)], 1) else if isNm f key t then (true, nxT f n t, [-(f t.2.1)], 1) else (false, t, [], 0)
theorem pA_2 {f : Nat → Int32} {n key : Nat} {t : Tk} (h : t.1 = 2) : pA f n key t = (true, nxT f n t, [sNum f t.2.1 (t.2.2 - t.2.1)], 1) := if_pos h
theorem pA_n {f : Nat → Int32} {n key : Nat} {t : Tk} (h : ¬ t.1 = 2) (h2 : isNm f key t) : pA f n key t = (true, nxT f n t, [-(f t.2.1)], 1) := (if_neg h).trans (if_pos h2)
theorem pA_no {f : Nat → Int32} {n key : Nat} {t : Tk} (h : ¬ t.1 = 2) (h2 : ¬ isNm f key t) : pA f n key t = (false, t, [], 0) := (if_neg h).trans (if_neg h2)
def pJ (f : Nat → Int32) (n : Nat) (g : Tk → Rs) (lev : Nat) : Nat → Rs → Rs
  | 0, r => r
  | m + 1, r => if jn f lev r.2.1 = true then (if (g (nxT f n r.2.1)).1 = true then pJ f n g lev m (true, (g (nxT f n r.2.1)).2.1, r.2.2.1 ++ (g (nxT f n r.2.1)).2.2.1 ++ [-(f r.2.1.2.1)], r.2.2.2 + (g (nxT f n r.2.1)).2.2.2) else (false, (g (nxT f n r.2.1)).2.1, [], 0)) else r
noncomputable def pL (f : Nat → Int32) (n key : Nat) : Nat → Nat → Nat → Nat → Tk → Rs
  | 0, _, _, _, t => (false, t, [], 0)
  | d + 1, lev, p, q, t => if lev < 5 then (if (pL f n key d (lev + 1) p q t).1 = true then pJ f n (pL f n key d (lev + 1) p q) lev (if lev = 2 then 1 else 96) (pL f n key d (lev + 1) p q t) else pL f n key d (lev + 1) p q t)
    else if sgn f t 33 = true ∧ q < 8 then ((pL f n key d 5 p (q + 1) (nxT f n t)).1, (pL f n key d 5 p (q + 1) (nxT f n t)).2.1, (pL f n key d 5 p (q + 1) (nxT f n t)).2.2.1 ++ [-33], (pL f n key d 5 p (q + 1) (nxT f n t)).2.2.2)
    else if sgn f t 40 = true ∧ p < 8 then (if (pL f n key d 0 (p + 1) q (nxT f n t)).1 = true ∧ sgn f (pL f n key d 0 (p + 1) q (nxT f n t)).2.1 41 = true then (true, nxT f n (pL f n key d 0 (p + 1) q (nxT f n t)).2.1, (pL f n key d 0 (p + 1) q (nxT f n t)).2.2.1, (pL f n key d 0 (p + 1) q (nxT f n t)).2.2.2) else (false, (pL f n key d 0 (p + 1) q (nxT f n t)).2.1, [], 0))
    else pA f n key t
/-- a result's place: behind where it began, room for its codes -/
def Rv (f : Nat → Int32) (n : Nat) (t : Tk) (r : Rs) : Prop := Tv f n r.2.1 ∧ (r.1 = true → t.2.1 + r.2.2.1.length ≤ r.2.1.2.1 ∧ t.2.1 < r.2.1.2.1)
theorem pA_v {f : Nat → Int32} {n key : Nat} {t : Tk} (h : Tv f n t) : Rv f n t (pA f n key t) := by
  have hv := nxT_v (f := f) (t := t) h.2.1
  by_cases h2 : t.1 = 2
  · rw [pA_2 h2]
    have := h.2.2.2.2.1 (by omega)
    exact ⟨hv.1, fun _ => ⟨by show t.2.1 + 1 ≤ (nxT f n t).2.1; omega, by show t.2.1 < (nxT f n t).2.1; omega⟩⟩
  · by_cases h3 : isNm f key t
    · rw [pA_n h2 h3]
      have h1 := h3.1.1
      have := h.2.2.2.2.1 (by omega)
      exact ⟨hv.1, fun _ => ⟨by show t.2.1 + 1 ≤ (nxT f n t).2.1; omega, by show t.2.1 < (nxT f n t).2.1; omega⟩⟩
    · rw [pA_no h2 h3]
      exact ⟨h, fun z => by cases z⟩
theorem pJ_v {f : Nat → Int32} {n : Nat} {g : Tk → Rs} {lev : Nat} {t : Tk} (hg : ∀ u, Tv f n u → Rv f n u (g u)) : ∀ (m : Nat) (r : Rs), r.1 = true → Rv f n t r → Rv f n t (pJ f n g lev m r)
  | 0, r, _, h => h
  | m + 1, r, hr, h => by
    unfold pJ
    by_cases hj : jn f lev r.2.1 = true
    · rw [if_pos hj]
      have t3 := jn_3 hj
      have hv := nxT_v (f := f) (t := r.2.1) h.1.2.1
      have hgu := hg _ hv.1
      have hb := h.1.2.2.2.2.2.1 t3
      by_cases hs : (g (nxT f n r.2.1)).1 = true
      · rw [if_pos hs]
        have := hgu.2 hs
        have := h.2 hr
        refine pJ_v hg m _ rfl ⟨hgu.1, fun _ => ?_⟩
        simp only [List.length_append, List.length_cons, List.length_nil]
        omega
      · rw [if_neg hs]
        exact ⟨hgu.1, fun z => by cases z⟩
    · rw [if_neg hj]
      exact h
theorem pL_v {f : Nat → Int32} {n key : Nat} : ∀ (d lev p q : Nat) (t : Tk), Tv f n t → Rv f n t (pL f n key d lev p q t)
  | 0, lev, p, q, t, h => ⟨h, fun z => by cases z⟩
  | d + 1, lev, p, q, t, h => by
    unfold pL
    have hv := nxT_v (f := f) (t := t) h.2.1
    by_cases h5 : lev < 5
    · rw [if_pos h5]
      have ih := pL_v d (lev + 1) p q t h (key := key)
      by_cases hr : (pL f n key d (lev + 1) p q t).1 = true
      · rw [if_pos hr]
        exact pJ_v (fun u hu => pL_v d (lev + 1) p q u hu) _ _ hr ih
      · rw [if_neg hr]
        exact ih
    · rw [if_neg h5]
      by_cases h1 : sgn f t 33 = true ∧ q < 8
      · rw [if_pos h1]
        have ih := pL_v d 5 p (q + 1) (nxT f n t) hv.1 (key := key)
        have t3 := (of_decide_eq_true h1.1).1
        have hb := h.2.2.2.2.2.1 t3
        refine ⟨ih.1, fun z => ?_⟩
        have := ih.2 z
        simp only [List.length_append, List.length_cons, List.length_nil]
        omega
      · rw [if_neg h1]
        by_cases h2 : sgn f t 40 = true ∧ p < 8
        · rw [if_pos h2]
          have ih := pL_v d 0 (p + 1) q (nxT f n t) hv.1 (key := key)
          have t3 := (of_decide_eq_true h2.1).1
          have hb := h.2.2.2.2.2.1 t3
          by_cases h3 : (pL f n key d 0 (p + 1) q (nxT f n t)).1 = true ∧ sgn f (pL f n key d 0 (p + 1) q (nxT f n t)).2.1 41 = true
          · rw [if_pos h3]
            have := ih.2 h3.1
            have hv2 := nxT_v (f := f) (t := (pL f n key d 0 (p + 1) q (nxT f n t)).2.1) ih.1.2.1
            have t4 := (of_decide_eq_true h3.2).1
            have hb2 := ih.1.2.2.2.2.2.1 t4
            refine ⟨hv2.1, fun _ => ?_⟩
            show t.2.1 + (pL f n key d 0 (p + 1) q (nxT f n t)).2.2.1.length ≤ (nxT f n (pL f n key d 0 (p + 1) q (nxT f n t)).2.1).2.1 ∧ t.2.1 < (nxT f n (pL f n key d 0 (p + 1) q (nxT f n t)).2.1).2.1
            omega
          · rw [if_neg h3]
            exact ⟨ih.1, fun z => by cases z⟩
        · rw [if_neg h2]
          exact pA_v h
-- the class: the reader at a word, with codes and atoms
def oRs (M : oM) (f : Nat → Int32) (n key : Nat) (t : Tk) (C : List Int32) (A : Nat) : Prop := (∀ j, j < n → M K_RBYT 0 j = f j) ∧ M K_READER 0 1 = nI n ∧ M K_READER 0 2 = nI t.1 ∧ M K_READER 0 3 = nI t.2.1 ∧ M K_READER 0 4 = nI t.2.2 ∧ M K_READER 0 5 = nI key ∧ M K_READER 0 6 = nI A ∧ M K_READER 0 8 = nI C.length ∧ ∀ j, j < C.length → M K_RCOD 0 j = C.getD j 0
def oRk : Nat → Nat → Prop := fun k _ => k = K_READER ∨ k = K_RCOD
theorem oRs.adv {M M' : oM} {f : Nat → Int32} {n key : Nat} {t u : Tk} {C : List Int32} {A : Nat} (h : oRs M f n key t C A) (hR : oRd M M' (nI u.1) (nI u.2.1) (nI u.2.2)) : oRs M' f n key u C A := by
  have e : ∀ k, ¬ k = K_READER → M' k 0 = M k 0 := fun k hk => hR.2.2.2.2 k 0 hk
  exact ⟨fun j hj => by rw [e _ (by decide)]; exact h.1 j hj, (hR.2.2.2.1 1 (by decide)).trans h.2.1, hR.1, hR.2.1, hR.2.2.1, (hR.2.2.2.1 5 (by decide)).trans h.2.2.2.2.2.1, (hR.2.2.2.1 6 (by decide)).trans h.2.2.2.2.2.2.1, (hR.2.2.2.1 8 (by decide)).trans h.2.2.2.2.2.2.2.1, fun j hj => by rw [e _ (by decide)]; exact h.2.2.2.2.2.2.2.2 j hj⟩
theorem oRd.rk {M M' : oM} {s a e : Int32} (h : oRd M M' s a e) : oFr oRk M M' := h.2.2.2.2.mono (fun k i q => Or.inl q)
/-- advance, as the reading needs it -/
theorem c_adv (M : oM) (f : Nat → Int32) (n key : Nat) (t : Tk) (C : List Int32) (A : Nat) (h : oRs M f n key t C A) (h96 : n ≤ 96) (hv : Tv f n t) : oCt 2 k_Reader_advance [.inr (K_READER, 0)] M (fun r M' => r = none ∧ oRs M' f n key (nxT f n t) C A ∧ oFr oRk M M') :=
  (c_Reader_advance M f n t.1 t.2.2 h.1 h.2.1 h96 h.2.2.1 hv.2.2.1 h.2.2.2.2.1 hv.2.1).imp (fun r M' q => ⟨q.1, h.adv q.2, q.2.rk⟩)
theorem c_Reader_isSign (M : oM) (f : Nat → Int32) (n key : Nat) (t : Tk) (C : List Int32) (A : Nat) (c : Int32) (h : oRs M f n key t C A) (h96 : n ≤ 96) (hv : Tv f n t) : oCt 0 k_Reader_isSign [.inr (K_READER, 0), .inl c] M (fun r M' => r = some (bI (sgn f t c)) ∧ M' = M) := by
  have ht := hv.2.2.1
  have ha := hv.1
  refine oCt.of (ls := [some (.inr (K_READER, 0)), some (.inl c)]) mok_Reader_isSign rfl rfl ?_
  refine oRun_ok 3 rfl ?_
  rw [show M 22 0 2 = _ from h.2.2.1]
  refine g_ic_ne rfl (fun h5 => ?_) (fun h5 => ?_)
  · have h5 : ¬ nI t.1 = nI 3 := h5
    rw [nIe (by omega) (by omega)] at h5
    refine oRun_ok 1 rfl ?_
    exact g_iret rfl rfl rfl ⟨by unfold sgn; rw [decide_eq_false (fun z => h5 z.1)]; rfl, rfl⟩
  · have h5 : nI t.1 = nI 3 := h5
    rw [nIe (by omega) (by omega)] at h5
    have hlt := (hv.2.2.2.2.1 (by omega)).1
    refine oRun_ok 4 rfl ?_
    rw [show M 22 0 3 = _ from h.2.2.2.1, show M 22 0 1 = _ from h.2.1]
    refine g_ic_ge rfl (fun h16 => ?_) (fun h16 => ?_)
    · rw [nIle (by omega) (by omega)] at h16
      refine oRun_ok 1 rfl ?_
      exact g_iret rfl rfl rfl ⟨by omega, rfl⟩
    · refine oRun_ok 4 rfl ?_
      refine g_iald (t.2.1) rfl rfl h.2.2.2.1 (by omega) ?_
      rw [show M 23 0 t.2.1 = _ from h.1 _ hlt]
      refine oRun_ok 1 rfl ?_
      refine g_ic_ne rfl (fun h29 => ?_) (fun h29 => ?_)
      · refine oRun_ok 1 rfl ?_
        exact g_iret rfl rfl rfl ⟨by unfold sgn; rw [decide_eq_false (fun z => h29 z.2)]; rfl, rfl⟩
      · refine oRun_ok 2 rfl ?_
        exact g_iret rfl rfl rfl ⟨by unfold sgn; rw [decide_eq_true ⟨h5, h29⟩]; rfl, rfl⟩
theorem c_Reader_isJoin (M : oM) (f : Nat → Int32) (n key : Nat) (t : Tk) (C : List Int32) (A lev : Nat) (h : oRs M f n key t C A) (h96 : n ≤ 96) (hv : Tv f n t) (hl : lev < 5) : oCt 1 k_Reader_isJoin [.inr (K_READER, 0), .inl (nI lev)] M (fun r M' => r = some (bI (jn f lev t)) ∧ M' = M) := by
  have cs := fun c => c_Reader_isSign M f n key t C A c h h96 hv
  have or2 : ∀ a b : Bool, a = true → bI (a || b) = 1 := fun a b ha => by rw [ha]; rfl
  refine oCt.of (ls := [some (.inr (K_READER, 0)), some (.inl (nI lev))]) mok_Reader_isJoin rfl rfl ?_
  refine oRun_ok 1 rfl ?_
  refine g_tsw [(0, 32), (1, 39), (2, 46), (3, 79)] 103 rfl (by decide +kernel) rfl ⟨fun h1 => ?_, fun h1 => ?_, fun h1 => ?_, fun h1 => ?_, trivial⟩ (fun h1 => ?_)
  · obtain rfl : lev = 0 := (nIe (b := 0) (by omega) (by omega)).mp h1
    refine oRun_ok 2 rfl ?_
    refine g_callV rfl rfl rfl rfl rfl mok_Reader_isSign (by decide) (cs 124) ?_
    rintro r35 M35 ⟨rfl, e⟩; rw [e]
    exact g_iret rfl rfl (bI_n _) ⟨rfl, rfl⟩
  · obtain rfl : lev = 1 := (nIe (b := 1) (by omega) (by omega)).mp h1
    refine oRun_ok 2 rfl ?_
    refine g_callV rfl rfl rfl rfl rfl mok_Reader_isSign (by decide) (cs 38) ?_
    rintro r42 M42 ⟨rfl, e⟩; rw [e]
    exact g_iret rfl rfl (bI_n _) ⟨rfl, rfl⟩
  · obtain rfl : lev = 2 := (nIe (b := 2) (by omega) (by omega)).mp h1
    refine oRun_ok 2 rfl ?_
    refine g_callV rfl rfl rfl rfl rfl mok_Reader_isSign (by decide) (cs 60) ?_
    rintro r49 M49 ⟨rfl, e⟩; rw [e]
    refine g_if_ne rfl (fun h52 => ?_) (fun h52 => ?_)
    · refine oRun_ok 2 rfl ?_
      exact g_iret rfl rfl rfl ⟨by show _ = some (bI (sgn f t 60 || (sgn f t 61 || sgn f t 62))); rw [bI_ne.mp h52]; rfl, rfl⟩
    · refine oRun_ok 2 rfl ?_
      refine g_callV rfl rfl rfl rfl rfl mok_Reader_isSign (by decide) (cs 61) ?_
      rintro r58 M58 ⟨rfl, e⟩; rw [e]
      refine g_if_ne rfl (fun h61 => ?_) (fun h61 => ?_)
      · refine oRun_ok 2 rfl ?_
        exact g_iret rfl rfl rfl ⟨by show _ = some (bI (sgn f t 60 || (sgn f t 61 || sgn f t 62))); rw [bI_ne.mp h61, Bool.true_or, Bool.or_true]; rfl, rfl⟩
      · refine oRun_ok 2 rfl ?_
        refine g_callV rfl rfl rfl rfl rfl mok_Reader_isSign (by decide) (cs 62) ?_
        rintro r67 M67 ⟨rfl, e⟩; rw [e]
        refine g_if_eq rfl (fun h70 => ?_) (fun h70 => ?_)
        · refine oRun_ok 1 rfl ?_
          exact g_iret rfl rfl rfl ⟨by show _ = some (bI (sgn f t 60 || (sgn f t 61 || sgn f t 62))); rw [bI_eq0.mp h52, bI_eq0.mp h61, bI_eq0.mp h70]; rfl, rfl⟩
        · refine oRun_ok 2 rfl ?_
          exact g_iret rfl rfl rfl ⟨by show _ = some (bI (sgn f t 60 || (sgn f t 61 || sgn f t 62))); rw [bI_ne.mp h70, Bool.or_true, Bool.or_true]; rfl, rfl⟩
  · obtain rfl : lev = 3 := (nIe (b := 3) (by omega) (by omega)).mp h1
    refine oRun_ok 2 rfl ?_
    refine g_callV rfl rfl rfl rfl rfl mok_Reader_isSign (by decide) (cs 43) ?_
    rintro r82 M82 ⟨rfl, e⟩; rw [e]
    refine g_if_ne rfl (fun h85 => ?_) (fun h85 => ?_)
    · refine oRun_ok 2 rfl ?_
      exact g_iret rfl rfl rfl ⟨by show _ = some (bI (sgn f t 43 || sgn f t 45)); rw [bI_ne.mp h85]; rfl, rfl⟩
    · refine oRun_ok 2 rfl ?_
      refine g_callV rfl rfl rfl rfl rfl mok_Reader_isSign (by decide) (cs 45) ?_
      rintro r91 M91 ⟨rfl, e⟩; rw [e]
      refine g_if_eq rfl (fun h94 => ?_) (fun h94 => ?_)
      · refine oRun_ok 1 rfl ?_
        exact g_iret rfl rfl rfl ⟨by show _ = some (bI (sgn f t 43 || sgn f t 45)); rw [bI_eq0.mp h85, bI_eq0.mp h94]; rfl, rfl⟩
      · refine oRun_ok 2 rfl ?_
        exact g_iret rfl rfl rfl ⟨by show _ = some (bI (sgn f t 43 || sgn f t 45)); rw [bI_ne.mp h94, Bool.or_true]; rfl, rfl⟩
  · obtain rfl : lev = 4 := by
      have a0 : ¬ lev = 0 := fun z => h1 (0, 32) (by decide) (by rw [z]; rfl)
      have a1 : ¬ lev = 1 := fun z => h1 (1, 39) (by decide) (by rw [z]; rfl)
      have a2 : ¬ lev = 2 := fun z => h1 (2, 46) (by decide) (by rw [z]; rfl)
      have a3 : ¬ lev = 3 := fun z => h1 (3, 79) (by decide) (by rw [z]; rfl)
      omega
    refine oRun_ok 2 rfl ?_
    refine g_callV rfl rfl rfl rfl rfl mok_Reader_isSign (by decide) (cs 42) ?_
    rintro r106 M106 ⟨rfl, e⟩; rw [e]
    refine g_if_ne rfl (fun h109 => ?_) (fun h109 => ?_)
    · refine oRun_ok 2 rfl ?_
      exact g_iret rfl rfl rfl ⟨by show _ = some (bI (sgn f t 42 || sgn f t 47)); rw [bI_ne.mp h109]; rfl, rfl⟩
    · refine oRun_ok 2 rfl ?_
      refine g_callV rfl rfl rfl rfl rfl mok_Reader_isSign (by decide) (cs 47) ?_
      rintro r115 M115 ⟨rfl, e⟩; rw [e]
      refine g_if_eq rfl (fun h118 => ?_) (fun h118 => ?_)
      · refine oRun_ok 1 rfl ?_
        exact g_iret rfl rfl rfl ⟨by show _ = some (bI (sgn f t 42 || sgn f t 47)); rw [bI_eq0.mp h109, bI_eq0.mp h118]; rfl, rfl⟩
      · refine oRun_ok 2 rfl ?_
        exact g_iret rfl rfl rfl ⟨by show _ = some (bI (sgn f t 42 || sgn f t 47)); rw [bI_ne.mp h118, Bool.or_true]; rfl, rfl⟩
theorem c_Reader_addCode (M : oM) (s : Nat) (c : Int32) (hs : M K_READER 0 8 = nI s) (h96 : s ≤ 96) : oCt 0 k_Reader_addCode [.inr (K_READER, 0), .inl c] M (fun r M' => r = none ∧ (s < 96 → M' = oUp (oUp M K_RCOD 0 s c) K_READER 0 8 (nI (s + 1))) ∧ (¬ s < 96 → M' = M)) := by
  refine oCt.of (ls := [some (.inr (K_READER, 0)), some (.inl c)]) mok_Reader_addCode rfl rfl ?_
  refine oRun_ok 3 rfl ?_
  rw [show M 22 0 8 = _ from hs, show (96 : Int32) = nI 96 from rfl]
  refine g_ic_ge rfl (fun h6 => ?_) (fun h6 => ?_)
  · rw [nIle (by omega) (by omega)] at h6
    exact g_ret rfl rfl ⟨rfl, fun z => absurd h6 (by omega), fun _ => rfl⟩
  · rw [nIle (by omega) (by omega)] at h6
    refine oRun_ok 5 rfl ?_
    refine g_iast s rfl rfl hs (by omega) ?_
    refine oRun_ok 6 rfl ?_
    refine g_ret rfl rfl ⟨rfl, fun z => ?_, fun z => absurd h6 (by omega)⟩
    rw [show oUp M 24 0 s c 22 0 8 = _ from hs, nI_1]
theorem c_Reader_numberHere (M : oM) (f : Nat → Int32) (n key : Nat) (t : Tk) (C : List Int32) (A : Nat) (h : oRs M f n key t C A) (h96 : n ≤ 96) (hv : Tv f n t) (ht : ¬ t.1 = 0) : oCt 0 k_Reader_numberHere [.inr (K_READER, 0)] M (fun r M' => r = some (sNum f t.2.1 (t.2.2 - t.2.1)) ∧ M' = M) := by
  obtain ⟨a1, a2⟩ := hv.2.2.2.2.1 ht
  have b1 := hv.2.1
  refine oCt.of (ls := [some (.inr (K_READER, 0)), none, none]) mok_Reader_numberHere rfl rfl ?_
  refine oRun_ok 5 rfl ?_
  have loop : ∀ (q k : Nat), k + q = t.2.2 - t.2.1 → oG k_Reader_numberHere 0 7 [some (.inr (K_READER, 0)), some (.inl (sNum f t.2.1 k)), some (.inl (nI (t.2.1 + k)))] [] M (fun r M' => r = some (sNum f t.2.1 (t.2.2 - t.2.1)) ∧ M' = M) := by
    intro q
    induction q with
    | zero =>
      intro k hk
      have hk : k = t.2.2 - t.2.1 := by omega
      refine oRun_ok 3 rfl ?_
      rw [show M 22 0 4 = _ from h.2.2.2.2.1]
      refine g_ic_ge rfl (fun _ => ?_) (fun z => absurd ((nIle (by omega) (by omega)).mpr (by omega)) z)
      refine oRun_ok 1 rfl ?_
      exact g_iret rfl rfl rfl ⟨by rw [hk], rfl⟩
    | succ q ih =>
      intro k hk
      refine oRun_ok 3 rfl ?_
      rw [show M 22 0 4 = _ from h.2.2.2.2.1]
      refine g_ic_ge rfl (fun z => ?_) (fun _ => ?_)
      · rw [nIle (by omega) (by omega)] at z
        omega
      refine oRun_ok 3 rfl ?_
      rw [show M 22 0 1 = _ from h.2.1]
      refine g_ic_ge rfl (fun z => ?_) (fun _ => ?_)
      · rw [nIle (by omega) (by omega)] at z
        omega
      refine oRun_ok 6 rfl ?_
      refine g_iald (t.2.1 + k) rfl rfl rfl (by omega) ?_
      rw [show M 23 0 (t.2.1 + k) = _ from h.1 _ (by omega)]
      refine oRun_ok 6 rfl ?_
      rw [nI_1]
      exact ih (k + 1) (by omega)
  rw [show M 22 0 3 = _ from h.2.2.2.1]
  exact loop (t.2.2 - t.2.1) 0 (by omega)
theorem c_Reader_isName (M : oM) (f : Nat → Int32) (n key : Nat) (t : Tk) (C : List Int32) (A : Nat) (h : oRs M f n key t C A) (h96 : n ≤ 96) (hv : Tv f n t) (hk : key < 3) : oCt 0 k_Reader_isName [.inr (K_READER, 0)] M (fun r M' => (isNm f key t → r = some 1) ∧ (¬ isNm f key t → r = some 0) ∧ M' = M) := by
  have ht := hv.2.2.1
  refine oCt.of (ls := [some (.inr (K_READER, 0)), none]) mok_Reader_isName rfl rfl ?_
  have no : ¬ isNm f key t → ((isNm f key t → some (0 : Int32) = some 1) ∧ (¬ isNm f key t → some (0 : Int32) = some 0) ∧ M = M) := fun z => ⟨fun y => absurd y z, fun _ => rfl, rfl⟩
  have yes : isNm f key t → ((isNm f key t → some (1 : Int32) = some 1) ∧ (¬ isNm f key t → some (1 : Int32) = some 0) ∧ M = M) := fun z => ⟨fun _ => rfl, fun y => absurd z y, rfl⟩
  refine oRun_ok 3 rfl ?_
  rw [show M 22 0 2 = _ from h.2.2.1]
  refine g_ic_ne rfl (fun h5 => ?_) (fun h5 => ?_)
  · have h5 : ¬ nI t.1 = nI 1 := h5
    rw [nIe (by omega) (by omega)] at h5
    refine oRun_ok 1 rfl ?_
    exact g_iret rfl rfl rfl (no (fun z => h5 z.1.1))
  · have h5 : nI t.1 = nI 1 := h5
    rw [nIe (by omega) (by omega)] at h5
    obtain ⟨a1, a2⟩ := hv.2.2.2.2.1 (by omega)
    have b1 := hv.2.1
    refine oRun_ok 6 rfl ?_
    rw [show M 22 0 4 = _ from h.2.2.2.2.1, show M 22 0 3 = _ from h.2.2.2.1, nIsub (by omega)]
    refine g_ic_eq rfl (fun h18 => ?_) (fun h18 => ?_)
    · have h18 : nI (t.2.2 - t.2.1) = nI 1 := h18
      rw [nIe (by omega) (by omega)] at h18
      refine oRun_ok 4 rfl ?_
      refine g_iald (t.2.1) rfl rfl h.2.2.2.1 (by omega) ?_
      rw [show M 23 0 t.2.1 = _ from h.1 _ a1]
      have nm : nmB key (f t.2.1) → isNm f key t := fun z => ⟨⟨h5, h18⟩, z⟩
      refine oRun_ok 4 rfl ?_
      rw [show M 22 0 5 = _ from h.2.2.2.2.2.1]
      refine g_ic_ne rfl (fun h38 => ?_) (fun h38 => ?_)
      · have h38 : ¬ nI key = nI 1 := h38
        rw [nIe (by omega) (by omega)] at h38
        refine oRun_ok 2 rfl ?_
        refine g_ic_eq rfl (fun h52 => ?_) (fun h52 => ?_)
        · refine oRun_ok 2 rfl ?_
          exact g_iret rfl rfl rfl (yes (nm (Or.inr (Or.inl h52))))
        · refine oRun_ok 3 rfl ?_
          rw [show M 22 0 5 = _ from h.2.2.2.2.2.1]
          refine g_ic_ne rfl (fun h60 => ?_) (fun h60 => ?_)
          · have h60 : ¬ nI key = nI 2 := h60
            rw [nIe (by omega) (by omega)] at h60
            refine oRun_ok 1 rfl ?_
            exact g_iret rfl rfl rfl (no (fun z => by rcases z.2 with y | y | y; exact h38 y.1; exact h52 y; exact h60 y.1))
          · have h60 : nI key = nI 2 := h60
            rw [nIe (by omega) (by omega)] at h60
            refine oRun_ok 2 rfl ?_
            refine g_ic_eq rfl (fun h66 => ?_) (fun h66 => ?_)
            · refine oRun_ok 2 rfl ?_
              exact g_iret rfl rfl rfl (yes (nm (Or.inr (Or.inr ⟨h60, Or.inl h66⟩))))
            · refine oRun_ok 2 rfl ?_
              refine g_ic_ne rfl (fun h72 => ?_) (fun h72 => ?_)
              · refine oRun_ok 1 rfl ?_
                exact g_iret rfl rfl rfl (no (fun z => by rcases z.2 with y | y | ⟨-, y | y⟩; exact h38 y.1; exact h52 y; exact h66 y; exact h72 y))
              · refine oRun_ok 2 rfl ?_
                exact g_iret rfl rfl rfl (yes (nm (Or.inr (Or.inr ⟨h60, Or.inr h72⟩))))
      · have h38 : nI key = nI 1 := h38
        rw [nIe (by omega) (by omega)] at h38
        refine oRun_ok 2 rfl ?_
        refine g_ic_ne rfl (fun h44 => ?_) (fun h44 => ?_)
        · refine oRun_ok 2 rfl ?_
          refine g_ic_eq rfl (fun h52 => ?_) (fun h52 => ?_)
          · refine oRun_ok 2 rfl ?_
            exact g_iret rfl rfl rfl (yes (nm (Or.inr (Or.inl h52))))
          · refine oRun_ok 3 rfl ?_
            rw [show M 22 0 5 = _ from h.2.2.2.2.2.1]
            refine g_ic_ne rfl (fun h60 => ?_) (fun h60 => ?_)
            · have h60 : ¬ nI key = nI 2 := h60
              rw [nIe (by omega) (by omega)] at h60
              refine oRun_ok 1 rfl ?_
              exact g_iret rfl rfl rfl (no (fun z => by rcases z.2 with y | y | y; exact h44 y.2; exact h52 y; exact h60 y.1))
            · have h60 : nI key = nI 2 := h60
              rw [nIe (by omega) (by omega)] at h60
              refine oRun_ok 2 rfl ?_
              refine g_ic_eq rfl (fun h66 => ?_) (fun h66 => ?_)
              · refine oRun_ok 2 rfl ?_
                exact g_iret rfl rfl rfl (yes (nm (Or.inr (Or.inr ⟨h60, Or.inl h66⟩))))
              · refine oRun_ok 2 rfl ?_
                refine g_ic_ne rfl (fun h72 => ?_) (fun h72 => ?_)
                · refine oRun_ok 1 rfl ?_
                  exact g_iret rfl rfl rfl (no (fun z => by rcases z.2 with y | y | ⟨-, y | y⟩; exact h44 y.2; exact h52 y; exact h66 y; exact h72 y))
                · refine oRun_ok 2 rfl ?_
                  exact g_iret rfl rfl rfl (yes (nm (Or.inr (Or.inr ⟨h60, Or.inr h72⟩))))
        · refine oRun_ok 1 rfl ?_
          exact g_iret rfl rfl rfl (yes (nm (Or.inl ⟨h38, h44⟩)))
    · have h18 : ¬ nI (t.2.2 - t.2.1) = nI 1 := h18
      rw [nIe (by omega) (by omega)] at h18
      refine oRun_ok 1 rfl ?_
      exact g_iret rfl rfl rfl (no (fun z => h18 z.1.2))

