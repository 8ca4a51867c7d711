/-! ## a whole tape -/
def tk1 (f : Nat → Int32) (n : Nat) : Tk := nx f n 3 0
noncomputable def tR (f : Nat → Int32) (n : Nat) : Rs := pL f n (kH f (tk1 f n)) 62 0 0 0 (nxT f n (tk1 f n))
/-- the tape is a text -/
def tOk (f : Nat → Int32) (n : Nat) : Prop := kH f (tk1 f n) < 3 ∧ (tR f n).1 = true ∧ (tR f n).2.1.1 = 0
noncomputable def tAt (f : Nat → Int32) (n : Nat) : Nat := if kH f (tk1 f n) < 3 then (tR f n).2.1.2.1 else (tk1 f n).2.1
theorem tk1_v (f : Nat → Int32) (n : Nat) : Tv f n (tk1 f n) := by
  obtain ⟨a1, a2, a3, a4, a5, a6, a7, a8, a9⟩ := nx_ok f 3 (Nat.zero_le n)
  exact ⟨a2, a3, a4, a5, a6, a7, a8, a9⟩
theorem tR_v (f : Nat → Int32) (n : Nat) : Rv f n (nxT f n (tk1 f n)) (tR f n) := pL_v 62 0 0 0 _ (nxT_v (tk1_v f n).2.1).1
theorem tR_96 {f : Nat → Int32} {n : Nat} (h96 : n ≤ 96) (h : tOk f n) : (tR f n).2.2.1.length ≤ 96 := by
  have h1 := (tR_v f n).2 h.2.1
  have h2 := (tR_v f n).1.1
  omega
theorem c_Reader_parseTape (M : oM) (f : Nat → Int32) (n : Nat) (hf : ∀ j, j < n → M K_RBYT 0 j = f j) (hn : M K_READER 0 1 = nI n) (h96 : n ≤ 96) : oCt 130 k_Reader_parseTape [.inr (K_READER, 0)] M (fun r M' => (tOk f n → r = some 1 ∧ oRs M' f n (kH f (tk1 f n)) (tR f n).2.1 (tR f n).2.2.1 (tR f n).2.2.2) ∧ (¬ tOk f n → r = some 0 ∧ M' K_READER 0 3 = nI (tAt f n)) ∧ oFr oRk M M') := by
  refine oCt.of (ls := [some (.inr (K_READER, 0))]) mok_Reader_parseTape rfl rfl ?_
  refine oRun_ok 13 rfl ?_
  generalize hM : oUp (oUp (oUp (oUp M 22 0 2 3) 22 0 4 0) 22 0 6 0) 22 0 8 0 = M1
  have hF1 : oFr oRk M M1 := by rw [← hM]; exact (((oFr.rf.up (Or.inl rfl)).up (Or.inl rfl)).up (Or.inl rfl)).up (Or.inl rfl)
  have b1 : ∀ j, j < n → M1 K_RBYT 0 j = f j := fun j hj => by rw [← hM]; exact hf j hj
  have b2 : M1 K_READER 0 1 = nI n := by rw [← hM]; exact hn
  have b3 : M1 K_READER 0 2 = nI 3 := by rw [← hM]; rfl
  have b4 : M1 K_READER 0 4 = nI 0 := by rw [← hM]; rfl
  have b6 : M1 K_READER 0 6 = nI 0 := by rw [← hM]; rfl
  have b8 : M1 K_READER 0 8 = nI 0 := by rw [← hM]; rfl
  refine g_callV rfl rfl rfl rfl rfl mok_Reader_advance (by decide) (c_Reader_advance M1 f n 3 0 b1 b2 h96 b3 (by decide) b4 (by omega)) ?_
  rintro r M2 ⟨rfl, hR⟩
  have hv1 := tk1_v f n
  have hF2 : oFr oRk M M2 := hF1.tr hR.rk
  have s2 : ∀ key : Nat, oRs (oUp M2 22 0 5 (nI key)) f n key (tk1 f n) [] 0 := fun key => by
    have e : M2 K_RBYT 0 = M1 K_RBYT 0 := hR.2.2.2.2 _ 0 (fun z => absurd z (show ¬ K_RBYT = K_READER by decide))
    exact ⟨fun j hj => by rw [oUp_k (by decide), e]; exact b1 j hj, (oUp_j (by decide)).trans ((hR.2.2.2.1 1 (by decide)).trans b2), (oUp_j (by decide)).trans hR.1, (oUp_j (by decide)).trans hR.2.1, (oUp_j (by decide)).trans hR.2.2.1, oUp_self, (oUp_j (by decide)).trans ((hR.2.2.2.1 6 (by decide)).trans b6), (oUp_j (by decide)).trans ((hR.2.2.2.1 8 (by decide)).trans b8), fun j hj => absurd hj (Nat.not_lt_zero j)⟩
  refine oRun_ok 2 rfl ?_
  have t2 : oRt M2 f n (tk1 f n) := ⟨fun j hj => by rw [show M2 K_RBYT 0 = M1 K_RBYT 0 from hR.2.2.2.2 _ 0 (fun z => absurd z (show ¬ K_RBYT = K_READER by decide))]; exact b1 j hj, hR.1, hR.2.1, hR.2.2.1⟩
  refine g_callV rfl rfl rfl rfl rfl mok_Reader_keyHere (by decide) (c_Reader_keyHere M2 f n (tk1 f n) t2 h96 hv1) ?_
  rintro r M3 ⟨r1, r2, e⟩; rw [e]
  by_cases hk : kH f (tk1 f n) < 3
  rotate_left
  · rw [r2 hk]
    refine oRun_ok 3 rfl ?_
    refine g_if_ge rfl (fun z => absurd z (show ¬ (0 : Int32) ≤ -1 by decide)) (fun _ => ?_)
    refine oRun_ok 1 rfl ?_
    exact g_iret rfl rfl rfl ⟨fun z => absurd z.1 hk, fun _ => ⟨rfl, by unfold tAt; rw [if_neg hk]; exact hR.2.1⟩, hF2.up (Or.inl rfl)⟩
  rw [r1 hk]
  refine oRun_ok 3 rfl ?_
  refine g_if_ge rfl (fun _ => ?_) (fun z => absurd (show (0 : Int32) ≤ nI (kH f (tk1 f n)) from (nIle (a := 0) (by omega) (by omega)).mpr (Nat.zero_le _)) z)
  refine oRun_ok 1 rfl ?_
  refine g_callV rfl rfl rfl rfl rfl mok_Reader_advance (by decide) (c_adv _ f n _ (tk1 f n) [] 0 (s2 _) h96 hv1) ?_
  rintro r M4 ⟨rfl, s4, hF4⟩
  have hF4 : oFr oRk M M4 := (hF2.up (Or.inl rfl)).tr hF4
  have hv2 := nxT_v (f := f) (t := tk1 f n) hv1.2.1
  refine oRun_ok 4 rfl ?_
  refine g_callV rfl rfl rfl rfl rfl mok_Reader_parseLevel (by decide) ((c_parse f n _ h96 hk 62).2 M4 0 0 0 _ [] 0 (by decide) s4 hv2.1 (Nat.zero_le _) (by decide) (by decide) (by decide)) ?_
  rintro r M5 ⟨r1, hF5, r3, r4, r5, -⟩
  have hF5 : oFr oRk M M5 := hF4.tr hF5
  have r1 : r = some (bI (tR f n).1) := r1
  have r3 : (tR f n).1 = true → oRs M5 f n (kH f (tk1 f n)) (tR f n).2.1 (tR f n).2.2.1 (tR f n).2.2.2 := fun z => by
    have y := r3 z
    rw [List.nil_append, Nat.zero_add] at y
    exact y
  have r5 : M5 K_READER 0 3 = nI (tR f n).2.1.2.1 := r5
  have at5 : M5 K_READER 0 3 = nI (tAt f n) := by unfold tAt; rw [if_pos hk]; exact r5
  rw [r1]
  by_cases ho : (tR f n).1 = true
  rotate_left
  · rw [Bool.eq_false_iff.mpr ho]
    refine g_if_eq rfl (fun _ => ?_) (fun z => absurd rfl z)
    refine oRun_ok 1 rfl ?_
    exact g_iret rfl rfl rfl ⟨fun z => absurd z.2.1 ho, fun _ => ⟨rfl, at5⟩, hF5⟩
  rw [ho]
  refine g_if_eq rfl (fun z => absurd z (by decide)) (fun _ => ?_)
  refine oRun_ok 2 rfl ?_
  rw [show M5 22 0 2 = _ from (r3 ho).2.2.1]
  have h4 := (tR_v f n).1.2.2.1
  refine g_if_ne rfl (fun z => ?_) (fun z => ?_)
  · refine oRun_ok 1 rfl ?_
    exact g_iret rfl rfl rfl ⟨fun y => absurd (by rw [y.2.2]; rfl) z, fun _ => ⟨rfl, at5⟩, hF5⟩
  · have z : nI (tR f n).2.1.1 = nI 0 := z
    rw [nIe (by omega) (by omega)] at z
    refine oRun_ok 2 rfl ?_
    exact g_iret rfl rfl rfl ⟨fun y => ⟨rfl, r3 ho⟩, fun y => absurd ⟨hk, ho, z⟩ y, hF5⟩

