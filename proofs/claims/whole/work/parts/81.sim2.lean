/-! ## the model reads as the class does -/
def oAft (f : Nat → Int32) (lev p : Nat) (T T' : Nat → Bool) (u : Tk) : Prop := (∀ j, j < p → T' j = T j) ∧ (3 ≤ lev → T' p = T p) ∧ ∀ l, lev ≤ l → l < 5 → jn f l u = false ∨ (l = 2 ∧ T' p = true)
/-- from a wanting state the model comes to what R says -/
def oSimR (f : Nat → Int32) (key : Nat) (F : Tk → Prop) (P : oPT) (lev p : Nat) (C S : List Int32) (T : Nat → Bool) (A : Nat) (R : Rs) (X : Prop) : Prop :=
  (R.1 = false → F R.2.1 → X) ∧ (R.1 = true → (∀ c1 K T', c1 ++ K = R.2.2.1.map (trC key) → (∀ x ∈ K, ¬ x = -10 ∧ stp (lev + 1) x = true) → oAft f lev p T T' R.2.1 → P false R.2.1 p (C ++ c1) (K ++ S) T' (A + R.2.2.2)) → X)
def oSimL (f : Nat → Int32) (n key : Nat) (F : Tk → Prop) (P : oPT) (d : Nat) : Prop := ∀ lev p t C S T A, lev ≤ 5 → p ≤ 8 → nO S ≤ 8 → Tv f n t → bnd lev S → (lev ≤ 2 → T p = false) → (5 - lev) + 6 * (8 - p) + (8 - nO S) + 1 ≤ d → oSimR f key F P lev p C S T A (pL f n key d lev p (nO S) t) (P true t p C S T A)
def oSim5 (f : Nat → Int32) (n key : Nat) (F : Tk → Prop) (P : oPT) (d : Nat) : Prop := ∀ p t C S T A m, p ≤ 8 → nO (List.replicate m (-10) ++ S) ≤ 8 → Tv f n t → bnd 5 S → 6 * (8 - p) + (8 - nO (List.replicate m (-10) ++ S)) + 1 ≤ d →
  ((pL f n key d 5 p (nO (List.replicate m (-10) ++ S)) t).1 = false → F (pL f n key d 5 p (nO (List.replicate m (-10) ++ S)) t).2.1 → P true t p C (List.replicate m (-10) ++ S) T A) ∧
  ((pL f n key d 5 p (nO (List.replicate m (-10) ++ S)) t).1 = true → (∀ T', (∀ j, j ≤ p → T' j = T j) → P false (pL f n key d 5 p (nO (List.replicate m (-10) ++ S)) t).2.1 p (C ++ (pL f n key d 5 p (nO (List.replicate m (-10) ++ S)) t).2.2.1.map (trC key) ++ List.replicate m (-10)) S T' (A + (pL f n key d 5 p (nO (List.replicate m (-10) ++ S)) t).2.2.2)) → P true t p C (List.replicate m (-10) ++ S) T A)
theorem rep_s : ∀ (m : Nat) (x : Int32), x ∈ List.replicate m (-10 : Int32) → stp (5 + 1) x = true := fun m x hx => by
  rw [(List.mem_replicate.mp hx).2]
  decide
/-- level 5 with nothing to turn over -/
theorem oSim5.L {f : Nat → Int32} {n key d : Nat} {F : Tk → Prop} {P : oPT} (h : oSim5 f n key F P d) : ∀ p t C S T A, p ≤ 8 → nO S ≤ 8 → Tv f n t → bnd 5 S → 6 * (8 - p) + (8 - nO S) + 1 ≤ d → oSimR f key F P 5 p C S T A (pL f n key d 5 p (nO S) t) (P true t p C S T A) := by
  intro p t C S T A hp hn hv hb hd
  obtain ⟨h1, h2⟩ := h p t C S T A 0 hp hn hv hb hd
  refine ⟨h1, fun ho k => h2 ho (fun T' hT => ?_)⟩
  have := k (List.map (trC key) (pL f n key d 5 p (nO S) t).2.2.1) [] T' (List.append_nil _) (fun x hx => absurd hx (List.not_mem_nil)) ⟨fun j hj => hT j (by omega), fun _ => hT p (Nat.le_refl p), fun l h1 h2 => absurd h1 (by omega)⟩
  show P false _ p (C ++ _ ++ []) S T' _
  rw [List.append_nil]
  exact this
theorem sim5_step {f : Nat → Int32} {n key d : Nat} {F : Tk → Prop} {P : oPT} (hK : oKept f n key F P) (hL : oSimL f n key F P d) (h5 : oSim5 f n key F P d) : oSim5 f n key F P (d + 1) := by
  obtain ⟨k1, k2, k3, k4, k5, k6, k7, k8⟩ := hK
  intro p t C S T A m hp hn hv hb hd
  generalize hS : List.replicate m (-10) ++ S = S1 at *
  have htw : S1.takeWhile (stp 6) = List.replicate m (-10) ∧ S1.dropWhile (stp 6) = S := by
    rw [← hS]
    exact tw_b (rep_s m) hb
  have hnv := nxT_v (f := f) (t := t) hv.2.1
  rw [show pL f n key (d + 1) 5 p (nO S1) t = _ from pL.eq_2 ..]
  rw [if_neg (by decide)]
  by_cases c1 : sgn f t 33 = true ∧ nO S1 < 8
  · rw [if_pos c1]
    have e1 : List.replicate (m + 1) (-10) ++ S = -10 :: S1 := by rw [← hS]; rfl
    have e2 : nO (-10 :: S1) = nO S1 + 1 := nO_not
    have ih := h5 p (nxT f n t) C S T A (m + 1) hp (by rw [e1, e2]; omega) hnv.1 hb (by rw [e1, e2]; omega)
    rw [e1, e2] at ih
    refine ⟨fun hf hF => k1 t p C S1 T A c1.1 c1.2 (ih.1 hf hF), fun ho k => k1 t p C S1 T A c1.1 c1.2 (ih.2 ho (fun T' hT => ?_))⟩
    have := k T' hT
    dsimp only at this
    rw [List.map_append, List.append_assoc, List.append_assoc, show List.map (trC key) [-33] ++ List.replicate m (-10) = List.replicate (m + 1) (-10) from rfl, ← List.append_assoc] at this
    exact this
  rw [if_neg c1]
  by_cases c2 : sgn f t 40 = true ∧ p < 8
  · rw [if_pos c2]
    have e2 : nO (-11 :: S1) = nO S1 := nO_cons (by decide)
    have ih := hL 0 (p + 1) (nxT f n t) C (-11 :: S1) (upT T (p + 1) false) A (by decide) (by omega) (by rw [e2]; exact hn) hnv.1 (fun x hx => by cases hx; decide) (fun _ => if_pos rfl) (by rw [e2]; omega)
    rw [e2] at ih
    generalize pL f n key d 0 (p + 1) (nO S1) (nxT f n t) = r at *
    by_cases ho : r.1 = true
    rotate_left
    · rw [if_neg (fun z => ho z.1)]
      exact ⟨fun _ hF => k2 t p C S1 T A c2.1 c2.2 (ih.1 (Bool.eq_false_iff.mpr ho) hF), fun z => by cases z⟩
    by_cases hc : sgn f r.2.1 41 = true
    · rw [if_pos ⟨ho, hc⟩]
      refine ⟨fun z => (by cases z), fun _ k => k2 t p C S1 T A c2.1 c2.2 (ih.2 ho (fun c3 K T' e3 hK3 hA => ?_))⟩
      refine k5 _ p (C ++ c3) K S1 T' _ hc (fun x hx => stp_mono (by decide) (by decide) (hK3 x hx).2) ?_
      rw [htw.1, htw.2, List.append_assoc C c3 K, e3]
      refine k T' (fun j hj => (hA.1 j (by omega)).trans (if_neg (by omega)))
    · rw [if_neg (fun z => hc z.2)]
      refine ⟨fun _ hF => k2 t p C S1 T A c2.1 c2.2 (ih.2 ho (fun c3 K T' e3 hK3 hA => ?_)), fun z => by cases z⟩
      by_cases h0 : r.2.1.1 = 0
      · exact k8 _ _ _ _ _ _ h0 (by omega) hF
      · exact k7 _ _ _ _ _ _ h0 (fun z => hc z.1) (fun l hl => hA.2.2 l (Nat.zero_le _) hl) hF
  rw [if_neg c2]
  by_cases a2 : t.1 = 2
  · rw [pA_2 a2]
    refine ⟨fun z => (by cases z), fun _ k => k3 t p C S1 T A _ (Or.inl ⟨a2, rfl⟩) ?_⟩
    rw [htw.1, htw.2]
    exact k T (fun _ _ => rfl)
  by_cases a3 : isNm f key t
  · rw [pA_n a2 a3]
    refine ⟨fun z => (by cases z), fun _ k => k3 t p C S1 T A _ (Or.inr ⟨a3, rfl⟩) ?_⟩
    rw [htw.1, htw.2]
    exact k T (fun _ _ => rfl)
  · rw [pA_no a2 a3]
    exact ⟨fun _ hF => k4 t p C S1 T A c1 c2 a2 a3 hF, fun z => by cases z⟩
theorem simJ {f : Nat → Int32} {n key d : Nat} {F : Tk → Prop} {P : oPT} (hK : oKept f n key F P) {lev p : Nat} {C S : List Int32} {T : Nat → Bool} {A : Nat} (hl : lev < 5) (hp : p ≤ 8) (hn : nO S ≤ 8) (hb : bnd lev S)
    (hR : ∀ t C S' T A, nO S' = nO S → Tv f n t → bnd (lev + 1) S' → (lev + 1 ≤ 2 → T p = false) → oSimR f key F P (lev + 1) p C S' T A (pL f n key d (lev + 1) p (nO S) t) (P true t p C S' T A)) :
    ∀ (m : Nat) (r : Rs) (c1 K : List Int32) (T' : Nat → Bool), r.1 = true → Tv f n r.2.1 → c1 ++ K = r.2.2.1.map (trC key) → (∀ x ∈ K, ¬ x = -10 ∧ stp (lev + 1) x = true) → (∀ j, j < p → T' j = T j) → (3 ≤ lev → T' p = T p) → (∀ l, lev + 1 ≤ l → l < 5 → jn f l r.2.1 = false ∨ (l = 2 ∧ T' p = true)) → (lev = 2 → (m = 1 ∧ T' p = false) ∨ (m = 0 ∧ T' p = true)) → (¬ lev = 2 → n < m + r.2.1.2.1) →
      oSimR f key F P lev p C S T A (pJ f n (pL f n key d (lev + 1) p (nO S)) lev m r) (P false r.2.1 p (C ++ c1) (K ++ S) T' (A + r.2.2.2))
  | 0, r, c1, K, T', ho, hv, e, hk, h1, h2, h3, h4, h5 => by
    by_cases l2 : lev = 2
    · have t2 : T' p = true := by
        rcases h4 l2 with y | y
        · exact absurd y.1 (by decide)
        · exact y.2
      refine ⟨fun z => absurd (ho.symm.trans z) (by decide), fun _ k => k c1 K T' e hk ⟨h1, h2, fun l a b => ?_⟩⟩
      by_cases hll : l = 2
      · exact Or.inr ⟨hll, t2⟩
      · exact h3 l (by omega) b
    · have := h5 l2
      have := hv.1
      omega
  | m + 1, r, c1, K, T', ho, hv, e, hk, h1, h2, h3, h4, h5 => by
    obtain ⟨k1, k2, k3, k4, k5, k6, k7, k8⟩ := id hK
    unfold pJ
    by_cases hj : jn f lev r.2.1 = true
    rotate_left
    · rw [if_neg hj]
      refine ⟨fun z => absurd (ho.symm.trans z) (by decide), fun _ k => k c1 K T' e hk ⟨h1, h2, fun l a b => ?_⟩⟩
      by_cases hll : l = lev
      · exact Or.inl (by rw [hll]; exact Bool.eq_false_iff.mpr hj)
      · exact h3 l (by omega) b
    rw [if_pos hj]
    have ho' := op_ok (key := key) hl hj
    have hnv := nxT_v (f := f) (t := r.2.1) hv.2.1
    have t3 := jn_3 hj
    have hb3 := hv.2.2.2.2.2.1 t3
    have m0 : lev = 2 → m = 0 ∧ T' p = false := fun l2 => by
      rcases h4 l2 with y | y
      · exact ⟨by omega, y.2⟩
      · exact absurd y.1 (by omega)
    have hT : ¬ (lev = 2 ∧ T' p = true) := fun z => by
      have := (m0 z.1).2
      rw [z.2] at this
      cases this
    have ih := hR (nxT f n r.2.1) (C ++ c1 ++ K) (opC f key r.2.1 :: S) (upT T' p (decide (lev = 2) || decide (2 < lev) && T' p)) (A + r.2.2.2) (nO_cons ho'.1) hnv.1 (fun x hx => by cases hx; exact ho'.2.2.2) (fun q => by
      show (if p = p then _ else _) = false
      rw [if_pos rfl, decide_eq_false (by omega), decide_eq_false (by omega)]
      rfl)
    have hRv := pL_v (key := key) d (lev + 1) p (nO S) (nxT f n r.2.1) hnv.1
    generalize pL f n key d (lev + 1) p (nO S) (nxT f n r.2.1) = r2 at *
    have go : P true (nxT f n r.2.1) p (C ++ c1 ++ K) (opC f key r.2.1 :: S) (upT T' p (decide (lev = 2) || decide (2 < lev) && T' p)) (A + r.2.2.2) → P false r.2.1 p (C ++ c1) (K ++ S) T' (A + r.2.2.2) := k6 lev r.2.1 p (C ++ c1) K S T' (A + r.2.2.2) hl hj hT hk hb
    by_cases o2 : r2.1 = true
    rotate_left
    · rw [if_neg o2]
      exact ⟨fun _ hF => go (ih.1 (Bool.eq_false_iff.mpr o2) hF), fun z => (by cases z)⟩
    rw [if_pos o2]
    have hv2 := hRv.2 o2
    have step : ∀ (c2 K2 : List Int32) (T2 : Nat → Bool), c2 ++ K2 = r2.2.2.1.map (trC key) → (∀ x ∈ K2, ¬ x = -10 ∧ stp (lev + 1 + 1) x = true) → oAft f (lev + 1) p (upT T' p (decide (lev = 2) || decide (2 < lev) && T' p)) T2 r2.2.1 →
        oSimR f key F P lev p C S T A (pJ f n (pL f n key d (lev + 1) p (nO S)) lev m (true, r2.2.1, r.2.2.1 ++ r2.2.2.1 ++ [-(f r.2.1.2.1)], r.2.2.2 + r2.2.2.2)) (P false r2.2.1 p (C ++ (c1 ++ K ++ c2)) ((K2 ++ [opC f key r.2.1]) ++ S) T2 (A + (r.2.2.2 + r2.2.2.2))) := by
      intro c2 K2 T2 e2 hk2 hA
      have uT : 2 ≤ lev → T2 p = (decide (lev = 2) || decide (2 < lev) && T' p) := fun q => (hA.2.1 (by omega)).trans (if_pos rfl)
      refine simJ hK hl hp hn hb hR m (true, r2.2.1, r.2.2.1 ++ r2.2.2.1 ++ [-(f r.2.1.2.1)], r.2.2.2 + r2.2.2.2) (c1 ++ K ++ c2) (K2 ++ [opC f key r.2.1]) T2 rfl hRv.1 ?_ ?_ ?_ ?_ ?_ ?_ ?_
      · rw [List.map_append, List.map_append, ← e, ← e2]
        simp only [List.append_assoc]
        rfl
      · intro x hx
        rcases List.mem_append.mp hx with hx | hx
        · exact ⟨(hk2 x hx).1, stp_mono (by omega) (by omega) (hk2 x hx).2⟩
        · rw [List.mem_singleton.mp hx]
          exact ⟨ho'.1, ho'.2.2.1⟩
      · exact fun j hj => (hA.1 j hj).trans ((if_neg (by omega)).trans (h1 j hj))
      · intro q
        rw [uT (by omega), decide_eq_false (by omega), decide_eq_true (by omega)]
        exact h2 q
      · exact hA.2.2
      · intro q
        refine Or.inr ⟨(m0 q).1, ?_⟩
        rw [uT (by omega), decide_eq_true q]
        rfl
      · intro q
        have := h5 q
        show n < m + r2.2.1.2.1
        omega
    refine ⟨fun hf hF => go (ih.2 o2 (fun c2 K2 T2 e2 hk2 hA => ?_)), fun hf k => go (ih.2 o2 (fun c2 K2 T2 e2 hk2 hA => ?_))⟩
    · have := (step c2 K2 T2 e2 hk2 hA).1 hf hF
      simp only [List.append_assoc, Nat.add_assoc, List.cons_append, List.nil_append] at this ⊢
      exact this
    · have := (step c2 K2 T2 e2 hk2 hA).2 hf k
      simp only [List.append_assoc, Nat.add_assoc, List.cons_append, List.nil_append] at this ⊢
      exact this
theorem sim_all {f : Nat → Int32} {n key : Nat} {F : Tk → Prop} {P : oPT} (h96 : n ≤ 96) (hK : oKept f n key F P) : ∀ d : Nat, oSimL f n key F P d ∧ oSim5 f n key F P d
  | 0 => ⟨fun lev p t C S T A _ _ _ _ _ _ hd => absurd hd (by omega), fun p t C S T A m _ _ _ _ hd => absurd hd (by omega)⟩
  | d + 1 => by
    obtain ⟨hL, h5⟩ := sim_all h96 hK d
    have s5 := sim5_step hK hL h5
    refine ⟨?_, s5⟩
    intro lev p t C S T A hl hp hn hv hb hT hd
    by_cases l5 : lev = 5
    · subst l5
      exact s5.L p t C S T A hp hn hv hb (by omega)
    have ll : lev < 5 := by omega
    rw [show pL f n key (d + 1) lev p (nO S) t = _ from pL.eq_2 ..]
    rw [if_pos ll]
    have h0 := hL (lev + 1) p t C S T A (by omega) hp hn hv (bnd_mono (by omega) hb) (fun q => hT (by omega)) (by omega)
    have hv0 := pL_v (key := key) d (lev + 1) p (nO S) t hv
    by_cases ho : (pL f n key d (lev + 1) p (nO S) t).1 = true
    rotate_left
    · rw [if_neg ho]
      exact ⟨h0.1, fun z => absurd z ho⟩
    rw [if_pos ho]
    have hR : ∀ t C S' T A, nO S' = nO S → Tv f n t → bnd (lev + 1) S' → (lev + 1 ≤ 2 → T p = false) → oSimR f key F P (lev + 1) p C S' T A (pL f n key d (lev + 1) p (nO S) t) (P true t p C S' T A) := fun t C S' T A e hv hb hT => by
      have := hL (lev + 1) p t C S' T A (by omega) hp (by omega) hv hb hT (by omega)
      rw [e] at this
      exact this
    have hv1 := hv0.2 ho
    have jj : ∀ c1 K T', c1 ++ K = (pL f n key d (lev + 1) p (nO S) t).2.2.1.map (trC key) → (∀ x ∈ K, ¬ x = -10 ∧ stp (lev + 1 + 1) x = true) → oAft f (lev + 1) p T T' (pL f n key d (lev + 1) p (nO S) t).2.1 → oSimR f key F P lev p C S T A (pJ f n (pL f n key d (lev + 1) p (nO S)) lev (if lev = 2 then 1 else 96) (pL f n key d (lev + 1) p (nO S) t)) (P false (pL f n key d (lev + 1) p (nO S) t).2.1 p (C ++ c1) (K ++ S) T' (A + (pL f n key d (lev + 1) p (nO S) t).2.2.2)) := fun c1 K T' e hk hA =>
      simJ hK ll hp hn hb hR _ _ c1 K T' ho hv0.1 e (fun x hx => ⟨(hk x hx).1, stp_mono (by omega) (by omega) (hk x hx).2⟩) hA.1 (fun q => hA.2.1 (by omega)) hA.2.2 (fun q => Or.inl ⟨if_pos q, (hA.2.1 (by omega)).trans (hT (by omega))⟩) (fun q => by rw [if_neg q]; omega)
    exact ⟨fun hf hF => h0.2 ho (fun c1 K T' e hk hA => (jj c1 K T' e hk hA).1 hf hF), fun hf k => h0.2 ho (fun c1 K T' e hk hA => (jj c1 K T' e hk hA).2 hf k)⟩

