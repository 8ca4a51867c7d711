/-! ===== the class reads ===== -/
def Q_p (M : oM) (f : Nat → Int32) (n key : Nat) (C : List Int32) (A : Nat) (R : Rs) : Option Int32 → oM → Prop := fun r M' => r = some (bI R.1) ∧ oFr oRk M M' ∧ (R.1 = true → oRs M' f n key R.2.1 (C ++ R.2.2.1) (A + R.2.2.2)) ∧ M' K_READER 0 1 = nI n ∧ M' K_READER 0 3 = nI R.2.1.2.1 ∧ ∃ s, s ≤ 96 ∧ M' K_READER 0 8 = nI s
theorem Q_p.ok {M M' : oM} {f : Nat → Int32} {n key : Nat} {C : List Int32} {A : Nat} {R : Rs} (hR : R.1 = true) (hF : oFr oRk M M') (h : oRs M' f n key R.2.1 (C ++ R.2.2.1) (A + R.2.2.2)) (hl : (C ++ R.2.2.1).length ≤ 96) : Q_p M f n key C A R (some 1) M' := ⟨by rw [hR]; rfl, hF, fun _ => h, h.2.1, h.2.2.2.1, _, hl, h.2.2.2.2.2.2.2.1⟩
theorem Q_p.no {M M' : oM} {f : Nat → Int32} {n key s : Nat} {C : List Int32} {A : Nat} {R : Rs} (hR : R.1 = false) (hF : oFr oRk M M') (h1 : M' K_READER 0 1 = nI n) (h3 : M' K_READER 0 3 = nI R.2.1.2.1) (hs : s ≤ 96) (h8 : M' K_READER 0 8 = nI s) : Q_p M f n key C A R (some 0) M' := ⟨by rw [hR]; rfl, hF, fun z => (by rw [hR] at z; cases z), h1, h3, s, hs, h8⟩
theorem getD_app1 {C : List Int32} {c : Int32} {j : Nat} (h : j < C.length) : (C ++ [c]).getD j 0 = C.getD j 0 := by
  rw [List.getD_eq_getElem?_getD, List.getD_eq_getElem?_getD, List.getElem?_append_left h]
theorem getD_app2 {C : List Int32} {c : Int32} : (C ++ [c]).getD C.length 0 = c := by
  rw [List.getD_eq_getElem?_getD, List.getElem?_append_right (Nat.le_refl _)]
  simp
theorem oRs.add {M : oM} {f : Nat → Int32} {n key : Nat} {t : Tk} {C : List Int32} {A : Nat} {c : Int32} (h : oRs M f n key t C A) : oRs (oUp (oUp M K_RCOD 0 C.length c) K_READER 0 8 (nI (C.length + 1))) f n key t (C ++ [c]) A := by
  obtain ⟨h1, h2, h3, h4, h5, h6, h7, h8, h9⟩ := h
  have e : ∀ j, ¬ j = 8 → oUp (oUp M K_RCOD 0 C.length c) K_READER 0 8 (nI (C.length + 1)) K_READER 0 j = M K_READER 0 j := fun j hj => (oUp_j hj).trans (by rw [oUp_k (by decide)])
  refine ⟨fun j hj => ?_, (e 1 (by decide)).trans h2, (e 2 (by decide)).trans h3, (e 3 (by decide)).trans h4, (e 4 (by decide)).trans h5, (e 5 (by decide)).trans h6, (e 6 (by decide)).trans h7, ?_, fun j hj => ?_⟩
  · rw [oUp_k (by decide), oUp_k (by decide)]
    exact h1 j hj
  · rw [List.length_append]
    exact oUp_self
  · rw [List.length_append] at hj
    have hj : j < C.length + 1 := hj
    rw [oUp_k (by decide), oUp_at]
    by_cases z : j = C.length
    · rw [z, getD_app2]
      exact if_pos rfl
    · rw [getD_app1 (by omega)]
      exact (if_neg z).trans (h9 j (by omega))
theorem oRs.atom {M : oM} {f : Nat → Int32} {n key : Nat} {t : Tk} {C : List Int32} {A : Nat} (h : oRs M f n key t C A) : oRs (oUp M K_READER 0 6 (nI (A + 1))) f n key t C (A + 1) := by
  obtain ⟨h1, h2, h3, h4, h5, h6, h7, h8, h9⟩ := h
  have e : ∀ j, ¬ j = 6 → oUp M K_READER 0 6 (nI (A + 1)) K_READER 0 j = M K_READER 0 j := fun j hj => oUp_j hj
  exact ⟨fun j hj => by rw [oUp_k (by decide)]; exact h1 j hj, (e 1 (by decide)).trans h2, (e 2 (by decide)).trans h3, (e 3 (by decide)).trans h4, (e 4 (by decide)).trans h5, (e 5 (by decide)).trans h6, oUp_self, (e 8 (by decide)).trans h8, fun j hj => by rw [oUp_k (by decide)]; exact h9 j hj⟩
theorem oRk_add {M M1 : oM} {s : Nat} {c v : Int32} (h : oFr oRk M M1) : oFr oRk M (oUp (oUp M1 K_RCOD 0 s c) K_READER 0 8 v) := (h.up (Or.inr rfl)).up (Or.inl rfl)
theorem c_Reader_parseAtom (M : oM) (f : Nat → Int32) (n key : Nat) (t : Tk) (C : List Int32) (A : Nat) (h : oRs M f n key t C A) (h96 : n ≤ 96) (hv : Tv f n t) (hk : key < 3) (hC : C.length ≤ t.2.1) : oCt 3 k_Reader_parseAtom [.inr (K_READER, 0)] M (Q_p M f n key C A (pA f n key t)) := by
  have ht := hv.2.2.1
  have ha := hv.1
  refine oCt.of (ls := [some (.inr (K_READER, 0))]) mok_Reader_parseAtom rfl rfl ?_
  -- with the code on the stack
  have at43 : ∀ c, ¬ t.1 = 0 → pA f n key t = (true, nxT f n t, [c], 1) → oG k_Reader_parseAtom 3 43 [some (.inr (K_READER, 0))] [.inl c, .inr (K_READER, 0)] M (Q_p M f n key C A (pA f n key t)) := by
    intro c h0 hp
    have hlt := (hv.2.2.2.2.1 h0).1
    refine g_callV rfl rfl rfl rfl rfl mok_Reader_addCode (by decide) (c_Reader_addCode _ C.length c h.2.2.2.2.2.2.2.1 (by omega)) ?_
    rintro r1 M1 ⟨rfl, e1, -⟩
    rw [e1 (by omega)]
    have h1 := h.add (c := c)
    have f1 : oFr oRk M (oUp (oUp M K_RCOD 0 C.length c) K_READER 0 8 (nI (C.length + 1))) := oRk_add oFr.rf
    generalize oUp (oUp M K_RCOD 0 C.length c) K_READER 0 8 (nI (C.length + 1)) = M2 at h1 f1 ⊢
    refine oRun_ok 7 rfl ?_
    rw [show M2 22 0 6 = _ from h1.2.2.2.2.2.2.1, nI_1]
    have h2 := h1.atom
    refine g_callV rfl rfl rfl rfl rfl mok_Reader_advance (by decide) (c_adv _ f n key t _ _ h2 h96 hv) ?_
    rintro r3 M3 ⟨rfl, h3, f3⟩
    refine oRun_ok 1 rfl ?_
    refine g_iret rfl rfl rfl (Q_p.ok (by rw [hp]) ((f1.up (Or.inl rfl)).tr f3) (by rw [hp]; exact h3) ?_)
    rw [hp, List.length_append]
    show C.length + 1 ≤ 96
    omega
  have at17 : ∀ (h0 : ¬ t.1 = 0), (t.1 = 2 ∨ isNm f key t) → oG k_Reader_parseAtom 3 17 [some (.inr (K_READER, 0))] [] M (Q_p M f n key C A (pA f n key t)) := by
    intro h0 hx
    have hlt := (hv.2.2.2.2.1 h0).1
    refine oRun_ok 4 rfl ?_
    rw [show M 22 0 2 = _ from h.2.2.1]
    refine g_ic_ne rfl (fun z => ?_) (fun z => ?_)
    · have z : ¬ nI t.1 = nI 2 := z
      rw [nIe (by omega) (by omega)] at z
      refine oRun_ok 4 rfl ?_
      refine g_iald t.2.1 rfl rfl h.2.2.2.1 (by omega) ?_
      rw [show M 23 0 t.2.1 = _ from h.1 _ hlt]
      refine oRun_ok 1 rfl ?_
      exact at43 _ h0 (pA_n z (hx.resolve_left z))
    · have z : nI t.1 = nI 2 := z
      rw [nIe (by omega) (by omega)] at z
      refine oRun_ok 1 rfl ?_
      refine g_callV rfl rfl rfl rfl rfl mok_Reader_numberHere (by decide) (c_Reader_numberHere _ f n key t C A h h96 hv h0) ?_
      rintro r1 M1 ⟨rfl, e⟩; rw [e]
      refine oRun_ok 1 rfl ?_
      exact at43 _ h0 (pA_2 z)
  refine oRun_ok 3 rfl ?_
  rw [show M 22 0 2 = _ from h.2.2.1]
  refine g_ic_eq rfl (fun z => ?_) (fun z => ?_)
  · have z : nI t.1 = nI 2 := z
    rw [nIe (by omega) (by omega)] at z
    exact at17 (by omega) (Or.inl z)
  · have z : ¬ nI t.1 = nI 2 := z
    rw [nIe (by omega) (by omega)] at z
    refine oRun_ok 1 rfl ?_
    refine g_callV rfl rfl rfl rfl rfl mok_Reader_isName (by decide) (c_Reader_isName _ f n key t C A h h96 hv hk) ?_
    rintro r1 M1 ⟨y1, y2, e⟩
    rw [e]
    by_cases hn : isNm f key t
    · rw [y1 hn]
      refine g_if_ne rfl (fun _ => ?_) (fun y => absurd y (by decide))
      exact at17 (by have := hn.1.1; omega) (Or.inr hn)
    · rw [y2 hn]
      refine g_if_ne rfl (fun y => absurd rfl y) (fun _ => ?_)
      refine oRun_ok 1 rfl ?_
      have hp : pA f n key t = (false, t, [], 0) := pA_no z hn
      exact g_iret rfl rfl rfl (Q_p.no (s := C.length) (by rw [hp]) oFr.rf h.2.1 (by rw [hp]; exact h.2.2.2.1) (by omega) h.2.2.2.2.2.2.2.1)
theorem c_parse (f : Nat → Int32) (n key : Nat) (h96 : n ≤ 96) (hk : key < 3) : ∀ d : Nat,
    (∀ (M : oM) (p q : Nat) (t : Tk) (C : List Int32) (A : Nat), oRs M f n key t C A → Tv f n t → C.length ≤ t.2.1 → p ≤ 8 → q ≤ 8 → 6 * (8 - p) + (8 - q) + 1 ≤ d → oCt (2 * d + 4) k_Reader_parsePiece [.inr (K_READER, 0), .inl (nI p), .inl (nI q)] M (Q_p M f n key C A (pL f n key d 5 p q t))) ∧
    (∀ (M : oM) (lev p q : Nat) (t : Tk) (C : List Int32) (A : Nat), lev ≤ 5 → oRs M f n key t C A → Tv f n t → C.length ≤ t.2.1 → p ≤ 8 → q ≤ 8 → (5 - lev) + 6 * (8 - p) + (8 - q) + 1 ≤ d → oCt (2 * d + 5) k_Reader_parseLevel [.inr (K_READER, 0), .inl (nI lev), .inl (nI p), .inl (nI q)] M (Q_p M f n key C A (pL f n key d lev p q t)))
  | 0 => ⟨fun M p q t C A _ _ _ _ _ hd => absurd hd (by omega), fun M lev p q t C A _ _ _ _ _ _ hd => absurd hd (by omega)⟩
  | d + 1 => by
    obtain ⟨ihP, ihL⟩ := c_parse f n key h96 hk d
    have piece : ∀ (M : oM) (p q : Nat) (t : Tk) (C : List Int32) (A : Nat), oRs M f n key t C A → Tv f n t → C.length ≤ t.2.1 → p ≤ 8 → q ≤ 8 → 6 * (8 - p) + (8 - q) + 1 ≤ d + 1 → oCt (2 * (d + 1) + 4) k_Reader_parsePiece [.inr (K_READER, 0), .inl (nI p), .inl (nI q)] M (Q_p M f n key C A (pL f n key (d + 1) 5 p q t)) := by
      intro M p q t C A h hv hC hp hq hd
      have ht := hv.2.2.1
      have ha := hv.1
      have hnv := nxT_v (f := f) (t := t) hv.2.1
      have eP : pL f n key (d + 1) 5 p q t = if sgn f t 33 = true ∧ q < 8 then ((pL f n key d 5 p (q + 1) (nxT f n t)).1, (pL f n key d 5 p (q + 1) (nxT f n t)).2.1, (pL f n key d 5 p (q + 1) (nxT f n t)).2.2.1 ++ [-33], (pL f n key d 5 p (q + 1) (nxT f n t)).2.2.2)
        else if sgn f t 40 = true ∧ p < 8 then (if (pL f n key d 0 (p + 1) q (nxT f n t)).1 = true ∧ sgn f (pL f n key d 0 (p + 1) q (nxT f n t)).2.1 41 = true then (true, nxT f n (pL f n key d 0 (p + 1) q (nxT f n t)).2.1, (pL f n key d 0 (p + 1) q (nxT f n t)).2.2.1, (pL f n key d 0 (p + 1) q (nxT f n t)).2.2.2) else (false, (pL f n key d 0 (p + 1) q (nxT f n t)).2.1, [], 0))
        else pA f n key t := by
        rw [pL, if_neg (by decide)]
      refine oCt.of (ls := [some (.inr (K_READER, 0)), some (.inl (nI p)), some (.inl (nI q)), none]) mok_Reader_parsePiece rfl rfl ?_
      -- behind the !
      have at36 : ¬ (sgn f t 33 = true ∧ q < 8) → oG k_Reader_parsePiece (2 * (d + 1) + 4) 36 [some (.inr (K_READER, 0)), some (.inl (nI p)), some (.inl (nI q)), none] [] M (Q_p M f n key C A (pL f n key (d + 1) 5 p q t)) := by
        intro n1
        rw [if_neg n1] at eP
        have at84 : ¬ (sgn f t 40 = true ∧ p < 8) → oG k_Reader_parsePiece (2 * (d + 1) + 4) 84 [some (.inr (K_READER, 0)), some (.inl (nI p)), some (.inl (nI q)), none] [] M (Q_p M f n key C A (pL f n key (d + 1) 5 p q t)) := by
          intro n2
          rw [if_neg n2] at eP
          rw [eP]
          refine oRun_ok 1 rfl ?_
          refine g_callV rfl rfl rfl rfl rfl mok_Reader_parseAtom (by omega) (c_Reader_parseAtom _ f n key t C A h h96 hv hk hC) ?_
          rintro r1 M1 hQ
          obtain ⟨rfl, hQ2⟩ := hQ
          exact g_iret rfl rfl (bI_n _) ⟨rfl, hQ2⟩
        refine oRun_ok 2 rfl ?_
        refine g_callV rfl rfl rfl rfl rfl mok_Reader_isSign (by omega) (c_Reader_isSign _ f n key t C A 40 h h96 hv) ?_
        rintro r1 M1 ⟨rfl, e⟩; rw [e]
        refine g_if_eq rfl (fun z => at84 (fun y => by rw [bI_eq0.mp z] at y; exact absurd y.1 (by decide))) (fun z => ?_)
        have z := bI_ne.mp z
        refine oRun_ok 2 rfl ?_
        refine g_ic_ge rfl (fun y => ?_) (fun y => ?_)
        · have y : nI 8 ≤ nI p := y
          rw [nIle (by omega) (by omega)] at y
          exact at84 (fun u => by omega)
        · have y : ¬ nI 8 ≤ nI p := y
          rw [nIle (by omega) (by omega)] at y
          rw [if_pos ⟨z, by omega⟩] at eP
          have t3 := (of_decide_eq_true z).1
          have hb := hv.2.2.2.2.2.1 t3
          refine oRun_ok 1 rfl ?_
          refine g_callV rfl rfl rfl rfl rfl mok_Reader_advance (by omega) (c_adv _ f n key t C A h h96 hv) ?_
          rintro r2 M2 ⟨rfl, h2, f2⟩
          refine oRun_ok 6 rfl ?_
          rw [nI_1]
          refine g_callV rfl rfl rfl rfl rfl mok_Reader_parseLevel (by omega) (ihL M2 0 (p + 1) q (nxT f n t) C A (by omega) h2 hnv.1 (by omega) (by omega) hq (by omega)) ?_
          rintro r3 M3 ⟨rfl, f3, k3, l3, s3, sz, hsz, z3⟩
          have hrv := pL_v (f := f) (n := n) (key := key) d 0 (p + 1) q (nxT f n t) hnv.1
          generalize pL f n key d 0 (p + 1) q (nxT f n t) = R at eP k3 s3 hrv ⊢
          have fF := f2.tr f3
          cases hR : R.1 with
          | false =>
            rw [if_neg (fun u => by rw [hR] at u; exact absurd u.1 (by decide))] at eP
            refine g_if_eq rfl (fun _ => ?_) (fun u => absurd rfl u)
            refine oRun_ok 1 rfl ?_
            exact g_iret rfl rfl rfl (Q_p.no (s := sz) (by rw [eP]) fF l3 (by rw [eP]; exact s3) hsz z3)
          | true =>
            have k3 := k3 hR
            have hrl := hrv.2 hR
            refine g_if_eq rfl (fun u => absurd u (by decide)) (fun _ => ?_)
            refine oRun_ok 2 rfl ?_
            refine g_callV rfl rfl rfl rfl rfl mok_Reader_isSign (by omega) (c_Reader_isSign _ f n key R.2.1 _ _ 41 k3 h96 hrv.1) ?_
            rintro r4 M4 ⟨rfl, e⟩; rw [e]
            cases h41 : sgn f R.2.1 41 with
            | false =>
              rw [if_neg (fun u => by rw [h41] at u; exact absurd u.2 (by decide))] at eP
              refine g_if_ne rfl (fun u => absurd rfl u) (fun _ => ?_)
              refine oRun_ok 1 rfl ?_
              exact g_iret rfl rfl rfl (Q_p.no (s := sz) (by rw [eP]) fF l3 (by rw [eP]; exact s3) hsz z3)
            | true =>
              rw [if_pos ⟨hR, h41⟩] at eP
              refine g_if_ne rfl (fun _ => ?_) (fun u => absurd u (by decide))
              refine oRun_ok 1 rfl ?_
              refine g_callV rfl rfl rfl rfl rfl mok_Reader_advance (by omega) (c_adv _ f n key R.2.1 _ _ k3 h96 hrv.1) ?_
              rintro r5 M5 ⟨rfl, h5, f5⟩
              refine oRun_ok 1 rfl ?_
              refine g_iret rfl rfl rfl (Q_p.ok (by rw [eP]) (fF.tr f5) (by rw [eP]; exact h5) ?_)
              rw [eP, List.length_append]
              show C.length + R.2.2.1.length ≤ 96
              have := hrv.1.1
              omega
      refine oRun_ok 2 rfl ?_
      refine g_callV rfl rfl rfl rfl rfl mok_Reader_isSign (by omega) (c_Reader_isSign _ f n key t C A 33 h h96 hv) ?_
      rintro r1 M1 ⟨rfl, e⟩; rw [e]
      refine g_if_eq rfl (fun z => at36 (fun y => by rw [bI_eq0.mp z] at y; exact absurd y.1 (by decide))) (fun z => ?_)
      have z := bI_ne.mp z
      refine oRun_ok 2 rfl ?_
      refine g_ic_ge rfl (fun y => ?_) (fun y => ?_)
      · have y : nI 8 ≤ nI q := y
        rw [nIle (by omega) (by omega)] at y
        exact at36 (fun u => by omega)
      · have y : ¬ nI 8 ≤ nI q := y
        rw [nIle (by omega) (by omega)] at y
        rw [if_pos ⟨z, by omega⟩] at eP
        have t3 := (of_decide_eq_true z).1
        have hb := hv.2.2.2.2.2.1 t3
        refine oRun_ok 1 rfl ?_
        refine g_callV rfl rfl rfl rfl rfl mok_Reader_advance (by omega) (c_adv _ f n key t C A h h96 hv) ?_
        rintro r2 M2 ⟨rfl, h2, f2⟩
        refine oRun_ok 5 rfl ?_
        rw [nI_1]
        refine g_callV rfl rfl rfl rfl rfl mok_Reader_parsePiece (by omega) (ihP M2 p (q + 1) (nxT f n t) C A h2 hnv.1 (by omega) hp (by omega) (by omega)) ?_
        rintro r3 M3 ⟨rfl, f3, k3, l3, s3, sz, hsz, z3⟩
        have hrv := pL_v (f := f) (n := n) (key := key) d 5 p (q + 1) (nxT f n t) hnv.1
        generalize pL f n key d 5 p (q + 1) (nxT f n t) = R at eP k3 s3 hrv ⊢
        have fF := f2.tr f3
        refine oRun_ok 3 rfl ?_
        cases hR : R.1 with
        | true =>
          have k3 := k3 hR
          have hrl := hrv.2 hR
          have hra := hrv.1.1
          refine g_callV rfl rfl rfl rfl rfl mok_Reader_addCode (by omega) (c_Reader_addCode _ (C ++ R.2.2.1).length (-33) k3.2.2.2.2.2.2.2.1 (by rw [List.length_append]; omega)) ?_
          rintro r4 M4 ⟨rfl, e4, -⟩
          rw [e4 (by rw [List.length_append]; omega)]
          refine oRun_ok 1 rfl ?_
          refine g_iret rfl rfl rfl (Q_p.ok (by rw [eP]; exact hR) (oRk_add fF) ?_ ?_)
          · rw [eP, show C ++ (R.2.2.1 ++ [-33]) = (C ++ R.2.2.1) ++ [-33] from (List.append_assoc _ _ _).symm]
            exact k3.add
          · rw [eP]
            simp only [List.length_append, List.length_cons, List.length_nil]
            omega
        | false =>
          refine g_callV rfl rfl rfl rfl rfl mok_Reader_addCode (by omega) (c_Reader_addCode _ sz (-33) z3 hsz) ?_
          rintro r4 M4 ⟨rfl, e4, e5⟩
          refine oRun_ok 1 rfl ?_
          by_cases hs96 : sz < 96
          · rw [e4 hs96]
            refine g_iret rfl rfl rfl (Q_p.no (s := sz + 1) (by rw [eP]; exact hR) (oRk_add fF) ?_ ?_ (by omega) oUp_self)
            · exact (oUp_j (by decide)).trans (by rw [oUp_k (by decide)]; exact l3)
            · rw [eP]
              exact (oUp_j (by decide)).trans (by rw [oUp_k (by decide)]; exact s3)
          · rw [e5 hs96]
            exact g_iret rfl rfl rfl (Q_p.no (s := sz) (by rw [eP]; exact hR) fF l3 (by rw [eP]; exact s3) hsz z3)
    refine ⟨piece, ?_⟩
    intro M lev p q t C A hlev h hv hC hp hq hd
    have ht := hv.2.2.1
    have ha := hv.1
    refine oCt.of (ls := [some (.inr (K_READER, 0)), some (.inl (nI lev)), some (.inl (nI p)), some (.inl (nI q)), none, none, none]) mok_Reader_parseLevel rfl rfl ?_
    refine oRun_ok 2 rfl ?_
    refine g_ic_le rfl (fun z => ?_) (fun z => ?_)
    · have z : nI lev ≤ nI 4 := z
      rw [nIle (by omega) (by omega)] at z
      have eL : pL f n key (d + 1) lev p q t = if (pL f n key d (lev + 1) p q t).1 = true then pJ f n (pL f n key d (lev + 1) p q) lev (if lev = 2 then 1 else 96) (pL f n key d (lev + 1) p q t) else pL f n key d (lev + 1) p q t := by
        rw [pL, if_pos (by omega)]
      refine oRun_ok 6 rfl ?_
      rw [nI_1]
      refine g_callV rfl rfl rfl rfl rfl mok_Reader_parseLevel (by omega) (ihL M (lev + 1) p q t C A (by omega) h hv hC hp hq (by omega)) ?_
      rintro r1 M1 ⟨rfl, f1, k1, l1, s1, sz, hsz, z1⟩
      have hrv := pL_v (f := f) (n := n) (key := key) d (lev + 1) p q t hv
      have hgv : ∀ u, Tv f n u → Rv f n u (pL f n key d (lev + 1) p q u) := fun u hu => pL_v d (lev + 1) p q u hu
      have ihg := fun M2 u C2 A2 a1 a2 a3 => ihL M2 (lev + 1) p q u C2 A2 (by omega) a1 a2 a3 hp hq (by omega)
      generalize pL f n key d (lev + 1) p q t = R at eL k1 s1 hrv ⊢
      generalize pL f n key d (lev + 1) p q = g at eL hgv ihg
      cases hR : R.1 with
      | false =>
        rw [if_neg (by rw [hR]; decide)] at eL
        refine g_if_ne rfl (fun u => absurd rfl u) (fun _ => ?_)
        refine oRun_ok 1 rfl ?_
        exact g_iret rfl rfl rfl (Q_p.no (s := sz) (by rw [eL]; exact hR) f1 l1 (by rw [eL]; exact s1) hsz z1)
      | true =>
        rw [if_pos hR] at eL
        refine g_if_ne rfl (fun _ => ?_) (fun u => absurd u (by decide))
        have loop : ∀ (most : Nat), most ≤ 96 → ∀ (m j : Nat) (r : Rs) (M2 : oM) (x6 : Option oV), j + m = most → r.1 = true → Rv f n t r → oRs M2 f n key r.2.1 (C ++ r.2.2.1) (A + r.2.2.2) → oFr oRk M M2 → pL f n key (d + 1) lev p q t = pJ f n g lev m r → oG k_Reader_parseLevel (2 * (d + 1) + 5) 42 [some (.inr (K_READER, 0)), some (.inl (nI lev)), some (.inl (nI p)), some (.inl (nI q)), some (.inl (nI most)), some (.inl (nI j)), x6] [] M2 (Q_p M f n key C A (pL f n key (d + 1) lev p q t)) := by
          intro most hmost m
          have stop : ∀ (r : Rs) (M2 : oM) (x5 x6 : Option oV), r.1 = true → Rv f n t r → oRs M2 f n key r.2.1 (C ++ r.2.2.1) (A + r.2.2.2) → oFr oRk M M2 → pL f n key (d + 1) lev p q t = r → oG k_Reader_parseLevel (2 * (d + 1) + 5) 99 [some (.inr (K_READER, 0)), some (.inl (nI lev)), some (.inl (nI p)), some (.inl (nI q)), some (.inl (nI most)), x5, x6] [] M2 (Q_p M f n key C A (pL f n key (d + 1) lev p q t)) := by
            intro r M2 x5 x6 hr hv2 h2 hF e
            refine oRun_ok 1 rfl ?_
            refine g_iret rfl rfl rfl (Q_p.ok (by rw [e]; exact hr) hF (by rw [e]; exact h2) ?_)
            rw [e, List.length_append]
            have := hv2.2 hr
            have := hv2.1.1
            omega
          induction m with
          | zero =>
            intro j r M2 x6 hj hr hv2 h2 hF e
            obtain rfl : j = most := by omega
            refine oRun_ok 2 rfl ?_
            refine g_ic_ge rfl (fun _ => ?_) (fun u => absurd (Int32.le_refl _) u)
            exact stop r M2 _ _ hr hv2 h2 hF e
          | succ m ih =>
            intro j r M2 x6 hj hr hv2 h2 hF e
            refine oRun_ok 2 rfl ?_
            refine g_ic_ge rfl (fun u => ?_) (fun _ => ?_)
            · rw [nIle (by omega) (by omega)] at u
              omega
            refine oRun_ok 2 rfl ?_
            refine g_callV rfl rfl rfl rfl rfl mok_Reader_isJoin (by omega) (c_Reader_isJoin _ f n key r.2.1 _ _ lev h2 h96 hv2.1 (by omega)) ?_
            rintro r3 M3 ⟨rfl, e3⟩; rw [e3]
            rw [pJ] at e
            cases hj2 : jn f lev r.2.1 with
            | false =>
              rw [if_neg (by rw [hj2]; decide)] at e
              refine g_if_eq rfl (fun _ => ?_) (fun u => absurd rfl u)
              exact stop r M2 _ _ hr hv2 h2 hF e
            | true =>
              rw [if_pos hj2] at e
              refine g_if_eq rfl (fun u => absurd u (by decide)) (fun _ => ?_)
              have t3 := jn_3 hj2
              obtain ⟨a1, a2⟩ := hv2.1.2.2.2.2.1 (by omega)
              have hb := hv2.1.2.2.2.2.2.1 t3
              have hrl := hv2.2 hr
              have hnv := nxT_v (f := f) (t := r.2.1) hv2.1.2.1
              refine oRun_ok 4 rfl ?_
              refine g_iald r.2.1.2.1 rfl rfl h2.2.2.2.1 (by omega) ?_
              rw [show M2 23 0 r.2.1.2.1 = _ from h2.1 _ a1]
              refine oRun_ok 2 rfl ?_
              refine g_callV rfl rfl rfl rfl rfl mok_Reader_advance (by omega) (c_adv _ f n key r.2.1 _ _ h2 h96 hv2.1) ?_
              rintro r4 M4 ⟨rfl, h4, f4⟩
              refine oRun_ok 6 rfl ?_
              rw [nI_1]
              refine g_callV rfl rfl rfl rfl rfl mok_Reader_parseLevel (by omega) (ihg M4 (nxT f n r.2.1) _ _ h4 hnv.1 (by rw [List.length_append]; omega)) ?_
              rintro r5 M5 ⟨rfl, f5, k5, l5, s5, sz5, hsz5, z5⟩
              have hgu := hgv _ hnv.1
              have fF := (hF.tr f4).tr f5
              generalize g (nxT f n r.2.1) = S at e k5 s5 hgu ⊢
              cases hS : S.1 with
              | false =>
                rw [if_neg (by rw [hS]; decide)] at e
                refine g_if_ne rfl (fun u => absurd rfl u) (fun _ => ?_)
                refine oRun_ok 1 rfl ?_
                exact g_iret rfl rfl rfl (Q_p.no (s := sz5) (by rw [e]) fF l5 (by rw [e]; exact s5) hsz5 z5)
              | true =>
                rw [if_pos hS] at e
                have k5 := k5 hS
                have hsl := hgu.2 hS
                have hsa := hgu.1.1
                refine g_if_ne rfl (fun _ => ?_) (fun u => absurd u (by decide))
                refine oRun_ok 3 rfl ?_
                refine g_callV rfl rfl rfl rfl rfl mok_Reader_addCode (by omega) (c_Reader_addCode _ ((C ++ r.2.2.1) ++ S.2.2.1).length _ k5.2.2.2.2.2.2.2.1 (by rw [List.length_append, List.length_append]; omega)) ?_
                rintro r6 M6 ⟨rfl, e6, -⟩
                rw [e6 (by rw [List.length_append, List.length_append]; omega)]
                refine oRun_ok 2 rfl ?_
                rw [nI_1]
                refine ih (j + 1) (true, S.2.1, r.2.2.1 ++ S.2.2.1 ++ [-(f r.2.1.2.1)], r.2.2.2 + S.2.2.2) _ _ (by omega) rfl ⟨hgu.1, fun _ => ?_⟩ ?_ (oRk_add fF) e
                · simp only [List.length_append, List.length_cons, List.length_nil]
                  omega
                · have := k5.add (c := -(f r.2.1.2.1))
                  rw [show C ++ (r.2.2.1 ++ S.2.2.1 ++ [-(f r.2.1.2.1)]) = ((C ++ r.2.2.1) ++ S.2.2.1) ++ [-(f r.2.1.2.1)] by simp only [List.append_assoc], show A + (r.2.2.2 + S.2.2.2) = A + r.2.2.2 + S.2.2.2 by omega]
                  exact this
        refine oRun_ok 2 rfl ?_
        refine g_ic_ne rfl (fun y => ?_) (fun y => ?_)
        · have y : ¬ nI lev = nI 2 := y
          rw [nIe (by omega) (by omega)] at y
          rw [if_neg y] at eL
          refine oRun_ok 4 rfl ?_
          exact loop 96 (by decide) 96 0 R M1 _ (by omega) hR hrv (k1 hR) f1 eL
        · have y : nI lev = nI 2 := y
          rw [nIe (by omega) (by omega)] at y
          rw [if_pos y] at eL
          refine oRun_ok 5 rfl ?_
          exact loop 1 (by decide) 1 0 R M1 _ (by omega) hR hrv (k1 hR) f1 eL
    · have z : ¬ nI lev ≤ nI 4 := z
      rw [nIle (by omega) (by omega)] at z
      obtain rfl : lev = 5 := by omega
      refine oRun_ok 3 rfl ?_
      refine g_callV rfl rfl rfl rfl rfl mok_Reader_parsePiece (by omega) (piece M p q t C A h hv hC hp hq (by omega)) ?_
      rintro r1 M1 ⟨rfl, hQ2⟩
      exact g_iret rfl rfl (bI_n _) ⟨rfl, hQ2⟩

