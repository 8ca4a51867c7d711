/-! ## the model's loop keeps step (2): where the model wants a part -/
theorem yMe.le {M : oM} {f : Nat → Int32} {n key p p' : Nat} {t : Tk} {C S : List Int32} {T : Nat → Bool} {A : Nat} (h : yMe M f n key p t C S T A) (hp : p' ≤ p) : yMe M f n key p' t C S T A := ⟨h.1, h.2.1, h.2.2.1, h.2.2.2.1, fun j hj => h.2.2.2.2 j (by omega)⟩
theorem sg_ne {f : Nat → Int32} {t : Tk} {c : Int32} (h : sgn f t c = true) : t.1 = 3 ∧ f t.2.1 = c := of_decide_eq_true h
/-- the head of the loop, wanting -/
theorem e_43 {M : oM} {p q : Nat} {x : Option oV} {Q : Option Int32 → oM → Prop} (k : oG k_Mod_takesE 3 43 [some (.inr (K_MOD, 0)), some (.inl (nI p)), some (.inl (nI q)), some (.inl 1), x] [] M Q) : oG k_Mod_takesE 3 28 [some (.inr (K_MOD, 0)), some (.inl (nI p)), some (.inl (nI q)), some (.inl (bI true)), x] [] M Q := by
  refine oRun_ok 1 rfl ?_
  refine g_if_ne rfl (fun _ => ?_) (fun z => absurd z (by decide))
  refine oRun_ok 1 rfl ?_
  exact g_if_eq rfl (fun z => absurd z (by decide)) (fun _ => k)
/-- the nots are counted anew -/
theorem e_172 {M : oM} {p : Nat} {S : List Int32} {w q x : Option oV} {Q : Option Int32 → oM → Prop} (h27 : M K_MOD 0 27 = nI S.length) (hS : ySt M S) (hl : S.length ≤ 96) (k : oG k_Mod_takesE 3 28 [some (.inr (K_MOD, 0)), some (.inl (nI p)), some (.inl (nI (nO S))), w, x] [] M Q) : oG k_Mod_takesE 3 172 [some (.inr (K_MOD, 0)), some (.inl (nI p)), q, w, x] [] M Q := by
  refine oRun_ok 1 rfl ?_
  refine g_callV rfl rfl rfl rfl rfl mok_Mod_notsOpen (by decide) (c_Mod_notsOpen M S h27 hS hl) ?_
  rintro r M' ⟨rfl, e⟩; rw [e]
  exact oRun_ok 2 rfl k
theorem e_97 {M : oM} {f : Nat → Int32} {n p q : Nat} {t : Tk} {w x : Option oV} {Q : Option Int32 → oM → Prop} (hT : yMt M f n t) (h4 : t.1 ≤ 4) (hq : q ≤ 96) (hn : ¬ (sgn f t 33 = true ∧ q < 8)) (k : oG k_Mod_takesE 3 97 [some (.inr (K_MOD, 0)), some (.inl (nI p)), some (.inl (nI q)), w, x] [] M Q) : oG k_Mod_takesE 3 43 [some (.inr (K_MOD, 0)), some (.inl (nI p)), some (.inl (nI q)), w, x] [] M Q := by
  refine oRun_ok 3 rfl ?_
  rw [show M 31 0 17 = _ from hT.2.2.2.2.1]
  refine g_ic_ne rfl (fun _ => k) (fun z => ?_)
  have z : nI t.1 = nI 3 := z
  rw [nIe (by omega) (by omega)] at z
  refine oRun_ok 3 rfl ?_
  rw [show M 31 0 18 = _ from hT.2.2.2.2.2.1 (Or.inr z)]
  refine g_ic_ne rfl (fun _ => k) (fun y => ?_)
  refine oRun_ok 2 rfl ?_
  refine g_ic_ge rfl (fun _ => k) (fun v => ?_)
  exact absurd ⟨decide_eq_true ⟨z, y⟩, Nat.lt_of_not_le (fun u => v ((nIle (a := 8) (by omega) (by omega)).mpr u))⟩ hn
theorem e_158 {M : oM} {f : Nat → Int32} {n p q : Nat} {t : Tk} {w x : Option oV} {Q : Option Int32 → oM → Prop} (hT : yMt M f n t) (h4 : t.1 ≤ 4) (hp : p ≤ 96) (hn : ¬ (sgn f t 40 = true ∧ p < 8)) (k : oG k_Mod_takesE 3 158 [some (.inr (K_MOD, 0)), some (.inl (nI p)), some (.inl (nI q)), w, x] [] M Q) : oG k_Mod_takesE 3 97 [some (.inr (K_MOD, 0)), some (.inl (nI p)), some (.inl (nI q)), w, x] [] M Q := by
  refine oRun_ok 3 rfl ?_
  rw [show M 31 0 17 = _ from hT.2.2.2.2.1]
  refine g_ic_ne rfl (fun _ => k) (fun z => ?_)
  have z : nI t.1 = nI 3 := z
  rw [nIe (by omega) (by omega)] at z
  refine oRun_ok 3 rfl ?_
  rw [show M 31 0 18 = _ from hT.2.2.2.2.2.1 (Or.inr z)]
  refine g_ic_ne rfl (fun _ => k) (fun y => ?_)
  refine oRun_ok 2 rfl ?_
  refine g_ic_ge rfl (fun _ => k) (fun v => ?_)
  exact absurd ⟨decide_eq_true ⟨z, y⟩, Nat.lt_of_not_le (fun u => v ((nIle (a := 8) (by omega) (by omega)).mpr u))⟩ hn
theorem k_1 {M0 : oM} {f : Nat → Int32} {n key : Nat} {Q : Option Int32 → oM → Prop} (h96 : n ≤ 96) : ∀ t p C S T A, sgn f t 33 = true → nO S < 8 → yP M0 f n key Q true (nxT f n t) p C (-10 :: S) T A → yP M0 f n key Q true t p C S T A := by
  intro t p C S T A hs hq k M x h hv hl hp hF
  obtain ⟨t3, fc⟩ := sg_ne hs
  have hT := h.1
  obtain ⟨a1, a2⟩ := hv.2.2.2.2.1 (by omega)
  have hnv := nxT_v (f := f) (t := t) hv.2.1
  refine e_43 ?_
  refine oRun_ok 3 rfl ?_
  rw [show M 31 0 17 = _ from hT.2.2.2.2.1]
  refine g_ic_ne rfl (fun z => absurd (by rw [t3]; rfl) z) (fun _ => ?_)
  refine oRun_ok 3 rfl ?_
  rw [show M 31 0 18 = _ from hT.2.2.2.2.2.1 (Or.inr t3)]
  refine g_ic_ne rfl (fun z => absurd fc z) (fun _ => ?_)
  refine oRun_ok 2 rfl ?_
  refine g_ic_ge rfl (fun z => ?_) (fun _ => ?_)
  · have z : nI 8 ≤ nI (nO S) := z
    rw [nIle (by omega) (by omega)] at z
    omega
  refine oRun_ok 5 rfl ?_
  rw [show M 31 0 27 = _ from h.2.2.1.2.2.1]
  refine g_iast S.length rfl rfl rfl (by omega) ?_
  refine oRun_ok 8 rfl ?_
  rw [show oUp M 47 0 S.length (-10) 31 0 27 = _ from h.2.2.1.2.2.1, nI_1, nI_1]
  refine g_callV rfl rfl rfl rfl rfl mok_Mod_go (by decide) (c_Mgo _ f n key p t C (-10 :: S) T A h.push h96 hv (by omega)) ?_
  rintro r M2 ⟨rfl, h2, f2⟩
  refine oRun_ok 1 rfl ?_
  refine e_172 h2.2.2.1.2.2.1 h2.2.2.1.2.2.2 (by show S.length + 1 ≤ 96; omega) ?_
  exact k M2 _ h2 hnv.1 (by show C.length + (S.length + 1) ≤ _; omega) hp (hF.tr (((yTf.rf.k (Or.inr (Or.inl rfl))).m (by decide)).tr f2))
theorem k_2 {M0 : oM} {f : Nat → Int32} {n key : Nat} {Q : Option Int32 → oM → Prop} (h96 : n ≤ 96) : ∀ t p C S T A, sgn f t 40 = true → p < 8 → yP M0 f n key Q true (nxT f n t) (p + 1) C (-11 :: S) (upT T (p + 1) false) A → yP M0 f n key Q true t p C S T A := by
  intro t p C S T A hs hq k M x h hv hl hp hF
  obtain ⟨t3, fc⟩ := sg_ne hs
  have hT := h.1
  obtain ⟨a1, a2⟩ := hv.2.2.2.2.1 (by omega)
  have hnv := nxT_v (f := f) (t := t) hv.2.1
  have hno := nO_le S
  refine e_43 (e_97 hT hv.2.2.1 (by omega) (fun z => ?_) ?_)
  · have := (sg_ne z.1).2
    rw [fc] at this
    exact absurd this (by decide)
  refine oRun_ok 3 rfl ?_
  rw [show M 31 0 17 = _ from hT.2.2.2.2.1]
  refine g_ic_ne rfl (fun z => absurd (by rw [t3]; rfl) z) (fun _ => ?_)
  refine oRun_ok 3 rfl ?_
  rw [show M 31 0 18 = _ from hT.2.2.2.2.2.1 (Or.inr t3)]
  refine g_ic_ne rfl (fun z => absurd fc z) (fun _ => ?_)
  refine oRun_ok 2 rfl ?_
  refine g_ic_ge rfl (fun z => ?_) (fun _ => ?_)
  · have z : nI 8 ≤ nI p := z
    rw [nIle (by omega) (by omega)] at z
    omega
  refine oRun_ok 5 rfl ?_
  rw [show M 31 0 27 = _ from h.2.2.1.2.2.1]
  refine g_iast S.length rfl rfl rfl (by omega) ?_
  refine oRun_ok 11 rfl ?_
  rw [show oUp M 47 0 S.length (-11) 31 0 27 = _ from h.2.2.1.2.2.1, nI_1, nI_1]
  refine g_zast (p + 1) rfl rfl rfl (by omega) rfl ?_
  refine oRun_ok 1 rfl ?_
  refine g_callV rfl rfl rfl rfl rfl mok_Mod_go (by decide) (c_Mgo _ f n key (p + 1) t C (-11 :: S) (upT T (p + 1) false) A (h.push.flag (b := false) (Or.inr rfl)) h96 hv (by omega)) ?_
  rintro r M2 ⟨rfl, h2, f2⟩
  refine oRun_ok 1 rfl ?_
  refine e_172 h2.2.2.1.2.2.1 h2.2.2.1.2.2.2 (by show S.length + 1 ≤ 96; omega) ?_
  exact k M2 _ h2 hnv.1 (by show C.length + (S.length + 1) ≤ _; omega) (by omega) (hF.tr ((((yTf.rf.k (Or.inr (Or.inl rfl))).m (by decide)).k (Or.inr (Or.inr rfl))).tr f2))
theorem k_3 {M0 : oM} {f : Nat → Int32} {n key : Nat} {Q : Option Int32 → oM → Prop} (h96 : n ≤ 96) (hk : key < 3) : ∀ t p C S T A c, (t.1 = 2 ∧ c = sNum f t.2.1 (t.2.2 - t.2.1) ∨ isNm f key t ∧ c = -(f t.2.1)) → yP M0 f n key Q false (nxT f n t) p (C ++ [trC key c] ++ S.takeWhile (stp 6)) (S.dropWhile (stp 6)) T (A + 1) → yP M0 f n key Q true t p C S T A := by
  intro t p C S T A c hc k M x h hv hl hp hF
  have hT := h.1
  have t3 : ¬ t.1 = 3 ∧ ¬ t.1 = 0 := by
    rcases hc with y | y
    · have := y.1
      omega
    · have := y.1.1.1
      omega
  obtain ⟨a1, a2⟩ := hv.2.2.2.2.1 t3.2
  have hnv := nxT_v (f := f) (t := t) hv.2.1
  have hno := nO_le S
  have hsz : (S.takeWhile (stp 6)).length + (S.dropWhile (stp 6)).length = S.length := by
    rw [← List.length_append, List.takeWhile_append_dropWhile]
  refine e_43 (e_97 hT hv.2.2.1 (by omega) (fun z => t3.1 (sg_ne z.1).1) (e_158 hT hv.2.2.1 (by omega) (fun z => t3.1 (sg_ne z.1).1) ?_))
  refine oRun_ok 1 rfl ?_
  refine g_callV rfl rfl rfl rfl rfl mok_Mod_takesPart (by decide) (c_Mod_takesPart M f n key p t C S T A h h96 hv hk hl) ?_
  rintro r M2 ⟨r1, -, f2⟩
  obtain ⟨rfl, h2⟩ := r1 c hc
  refine g_if_eq rfl (fun z => absurd z (by decide)) (fun _ => ?_)
  refine oRun_ok 3 rfl ?_
  refine e_172 h2.2.2.1.2.2.1 h2.2.2.1.2.2.2 (by omega) ?_
  refine k M2 _ h2 hnv.1 ?_ hp (hF.tr f2)
  rw [List.length_append, List.length_append]
  show C.length + 1 + _ + _ ≤ _
  omega
theorem k_4 {M0 : oM} {f : Nat → Int32} {n key : Nat} {Q : Option Int32 → oM → Prop} (h96 : n ≤ 96) (hk : key < 3) : ∀ t p C S T A, ¬ (sgn f t 33 = true ∧ nO S < 8) → ¬ (sgn f t 40 = true ∧ p < 8) → ¬ t.1 = 2 → ¬ isNm f key t → yF M0 Q t → yP M0 f n key Q true t p C S T A := by
  intro t p C S T A n1 n2 n3 n4 hQ M x h hv hl hp hF
  have hT := h.1
  have hno := nO_le S
  have hv1 := hv.1
  refine e_43 (e_97 hT hv.2.2.1 (by omega) n1 (e_158 hT hv.2.2.1 (by omega) n2 ?_))
  refine oRun_ok 1 rfl ?_
  refine g_callV rfl rfl rfl rfl rfl mok_Mod_takesPart (by decide) (c_Mod_takesPart M f n key p t C S T A h h96 hv hk hl) ?_
  rintro r M2 ⟨-, r2, f2⟩
  obtain ⟨rfl, e⟩ := r2 n3 n4
  rw [e]
  refine g_if_eq rfl (fun _ => ?_) (fun z => absurd rfl z)
  refine oRun_ok 1 rfl ?_
  exact g_iret rfl rfl rfl (hQ M hT.2.2.2.1 hF)

