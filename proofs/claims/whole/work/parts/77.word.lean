/-! ## the words of a tape -/
theorem c_String_coder (M : oM) (i : Nat) (hi : i < 3) : oCt 0 k_String_coder [.inr (K_STR, i)] M (fun r M' => r = some 0 ∧ M' = M) := by
  refine oCt.of (ls := [some (.inr (K_STR, i))]) mok_String_coder rfl rfl ?_
  refine g_compact rfl rfl ?_
  refine g_if_eq rfl (fun h => absurd h (by decide)) (fun _ => ?_)
  refine oRun_ok 1 rfl ?_
  refine g_scod rfl rfl hi ?_
  refine oRun_ok 1 rfl ?_
  exact g_iret rfl rfl rfl ⟨rfl, rfl⟩
theorem c_String_isLatin1 (M : oM) (i : Nat) (hi : i < 3) : oCt 0 k_String_isLatin1 [.inr (K_STR, i)] M (fun r M' => r = some 1 ∧ M' = M) := by
  refine oCt.of (ls := [some (.inr (K_STR, i))]) mok_String_isLatin1 rfl rfl ?_
  refine g_compact rfl rfl ?_
  refine g_if_eq rfl (fun h => absurd h (by decide)) (fun _ => ?_)
  refine oRun_ok 1 rfl ?_
  refine g_scod rfl rfl hi ?_
  refine g_if_ne rfl (fun h => absurd rfl h) (fun _ => ?_)
  refine oRun_ok 2 rfl ?_
  exact g_iret rfl rfl rfl ⟨rfl, rfl⟩
theorem c_String_length (M : oM) (i : Nat) (hi : i < 3) : oCt 1 k_String_length [.inr (K_STR, i)] M (fun r M' => r = some (nI (oSL.getD i 0)) ∧ M' = M) := by
  refine oCt.of (ls := [some (.inr (K_STR, i))]) mok_String_length rfl rfl ?_
  refine oRun_ok 1 rfl ?_
  refine g_sval rfl rfl hi ?_
  refine g_blen rfl hi rfl ?_
  refine oRun_ok 1 rfl ?_
  refine g_callV rfl rfl rfl rfl rfl mok_String_coder (by decide) (c_String_coder M i hi) ?_
  rintro r M' ⟨rfl, e⟩; rw [e]
  refine oRun_ok 1 rfl ?_
  refine g_iret rfl rfl rfl ⟨?_, rfl⟩
  match i, hi with
  | 0, _ => rfl
  | 1, _ => rfl
  | 2, _ => rfl
theorem c_Preconditions_checkIndex (M : oM) (a b : Nat) (h : a < b) (hb : b < 100) : oCt 0 k_Preconditions_checkIndex [.inl (nI a), .inl (nI b), .inr (K_OPQ, 0)] M (fun r M' => r = some (nI a) ∧ M' = M) := by
  refine oCt.of (ls := [some (.inl (nI a)), some (.inl (nI b)), some (.inr (K_OPQ, 0))]) mok_Preconditions_checkIndex rfl rfl ?_
  refine oRun_ok 1 rfl ?_
  refine g_if_lt rfl (fun z => ?_) (fun _ => ?_)
  · have z : nI a < nI 0 := z
    rw [nIlt (by omega) (by omega)] at z
    omega
  refine oRun_ok 2 rfl ?_
  refine g_ic_lt rfl (fun z => ?_) (fun z => absurd ((nIlt (by omega) (by omega)).mpr h) z)
  refine oRun_ok 1 rfl ?_
  exact g_iret rfl rfl rfl ⟨rfl, rfl⟩
theorem c_String_checkIndex (M : oM) (a b : Nat) (h : a < b) (hb : b < 100) : oCt 1 k_String_checkIndex [.inl (nI a), .inl (nI b)] M (fun r M' => r = none ∧ M' = M) := by
  refine oCt.of (ls := [some (.inl (nI a)), some (.inl (nI b))]) mok_String_checkIndex rfl rfl ?_
  refine oRun_ok 2 rfl ?_
  refine g_sioobe rfl rfl ?_
  refine g_callS rfl rfl rfl rfl mok_Preconditions_checkIndex (by decide) (c_Preconditions_checkIndex M a b h hb) ?_
  rintro r M' ⟨rfl, e⟩; rw [e]
  refine oRun_ok 1 rfl ?_
  exact g_ret rfl rfl ⟨rfl, rfl⟩
theorem oSL_8 (i : Nat) (hi : i < 3) : oSL.getD i 0 ≤ 8 := by
  match i, hi with
  | 0, _ => decide
  | 1, _ => decide
  | 2, _ => decide
theorem oSB_ok : ∀ i, i < 3 → ∀ j, j < oSL.getD i 0 → (((((oSB.getD i []).getD j 0) &&& 255).toUInt32 % 65536).toInt32) = (oSB.getD i []).getD j 0 ∧ narrow .char (.int ((oSB.getD i []).getD j 0)) = .int ((oSB.getD i []).getD j 0) := by decide
theorem c_StringLatin1_charAt (M : oM) (i j : Nat) (hi : i < 3) (hj : j < oSL.getD i 0) : oCt 2 k_StringLatin1_charAt [.inr (K_SBY, i), .inl (nI j)] M (fun r M' => r = some ((oSB.getD i []).getD j 0) ∧ M' = M) := by
  have h8 := oSL_8 i hi
  refine oCt.of (ls := [some (.inr (K_SBY, i)), some (.inl (nI j))]) mok_StringLatin1_charAt rfl rfl ?_
  refine oRun_ok 2 rfl ?_
  refine g_blen rfl hi rfl ?_
  refine g_callS rfl rfl rfl rfl mok_String_checkIndex (by decide) (c_String_checkIndex M j (oSL.getD i 0) hj (by omega)) ?_
  rintro r M' ⟨rfl, e⟩; rw [e]
  refine oRun_ok 2 rfl ?_
  refine g_bld j rfl hi rfl hj ?_
  refine oRun_ok 3 rfl ?_
  have e2 : (((((oSB.getD i []).getD j 0) &&& 255).toUInt32 % 65536).toInt32) = (oSB.getD i []).getD j 0 ∧ narrow .char (.int ((oSB.getD i []).getD j 0)) = .int ((oSB.getD i []).getD j 0) := oSB_ok i hi j hj
  refine g_iret rfl rfl ?_ ⟨congrArg some e2.1, rfl⟩
  show narrow .char (.int (((((oSB.getD i []).getD j 0) &&& 255).toUInt32 % 65536).toInt32)) = .int (((((oSB.getD i []).getD j 0) &&& 255).toUInt32 % 65536).toInt32)
  rw [e2.1]
  exact e2.2
theorem c_String_charAt (M : oM) (i j : Nat) (hi : i < 3) (hj : j < oSL.getD i 0) : oCt 3 k_String_charAt [.inr (K_STR, i), .inl (nI j)] M (fun r M' => r = some ((oSB.getD i []).getD j 0) ∧ M' = M) := by
  refine oCt.of (ls := [some (.inr (K_STR, i)), some (.inl (nI j))]) mok_String_charAt rfl rfl ?_
  refine oRun_ok 1 rfl ?_
  refine g_callV rfl rfl rfl rfl rfl mok_String_isLatin1 (by decide) (c_String_isLatin1 M i hi) ?_
  rintro r M' ⟨rfl, e⟩; rw [e]
  refine g_if_eq rfl (fun h => absurd h (by decide)) (fun _ => ?_)
  refine oRun_ok 1 rfl ?_
  refine g_sval rfl rfl hi ?_
  refine oRun_ok 1 rfl ?_
  refine g_callS rfl rfl rfl rfl mok_StringLatin1_charAt (by decide) (c_StringLatin1_charAt M i j hi hj) ?_
  rintro r M' ⟨rfl, e⟩; rw [e]
  exact g_iret rfl rfl (oSB_ok i hi j hj).2 ⟨rfl, rfl⟩
/-- the token is the word i -/
def isW (f : Nat → Int32) (t : Tk) (i : Nat) : Prop := t.1 = 1 ∧ t.2.2 - t.2.1 = oSL.getD i 0 ∧ ∀ j, j < oSL.getD i 0 → f (t.2.1 + j) = (oSB.getD i []).getD j 0
/-- the reader stands at a token -/
def oRt (M : oM) (f : Nat → Int32) (n : Nat) (t : Tk) : Prop := (∀ j, j < n → M K_RBYT 0 j = f j) ∧ M K_READER 0 2 = nI t.1 ∧ M K_READER 0 3 = nI t.2.1 ∧ M K_READER 0 4 = nI t.2.2
theorem c_Reader_isWord (M : oM) (f : Nat → Int32) (n : Nat) (t : Tk) (i : Nat) (h : oRt M f n t) (h96 : n ≤ 96) (hv : Tv f n t) (hi : i < 3) : oCt 4 k_Reader_isWord [.inr (K_READER, 0), .inr (K_STR, i)] M (fun r M' => (isW f t i → r = some 1) ∧ (¬ isW f t i → r = some 0) ∧ M' = M) := by
  have ht := hv.2.2.1
  have h8 := oSL_8 i hi
  have no : ¬ isW f t i → ((isW f t i → some (0 : Int32) = some 1) ∧ (¬ isW f t i → some (0 : Int32) = some 0) ∧ M = M) := fun z => ⟨fun y => absurd y z, fun _ => rfl, rfl⟩
  have yes : isW f t i → ((isW f t i → some (1 : Int32) = some 1) ∧ (¬ isW f t i → some (1 : Int32) = some 0) ∧ M = M) := fun z => ⟨fun _ => rfl, fun y => absurd z y, rfl⟩
  refine oCt.of (ls := [some (.inr (K_READER, 0)), some (.inr (K_STR, i)), none]) mok_Reader_isWord rfl rfl ?_
  refine oRun_ok 3 rfl ?_
  rw [show M 22 0 2 = _ from h.2.1]
  refine g_ic_ne rfl (fun z => ?_) (fun z => ?_)
  · have z : ¬ nI t.1 = nI 1 := z
    rw [nIe (by omega) (by omega)] at z
    refine oRun_ok 1 rfl ?_
    exact g_iret rfl rfl rfl (no (fun y => z y.1))
  have z : nI t.1 = nI 1 := z
  rw [nIe (by omega) (by omega)] at z
  obtain ⟨a1, a2⟩ := hv.2.2.2.2.1 (by omega)
  have b1 := hv.2.1
  refine oRun_ok 6 rfl ?_
  refine g_callV rfl rfl rfl rfl rfl mok_String_length (by decide) (c_String_length M i hi) ?_
  rintro r M' ⟨rfl, e⟩; rw [e]
  rw [show M 22 0 4 = _ from h.2.2.2, show M 22 0 3 = _ from h.2.2.1, nIsub (by omega)]
  refine g_ic_eq rfl (fun y => ?_) (fun y => ?_)
  rotate_left
  · have y : ¬ nI (t.2.2 - t.2.1) = nI (oSL.getD i 0) := y
    rw [nIe (by omega) (by omega)] at y
    refine oRun_ok 1 rfl ?_
    exact g_iret rfl rfl rfl (no (fun x => y x.2.1))
  have y : nI (t.2.2 - t.2.1) = nI (oSL.getD i 0) := y
  rw [nIe (by omega) (by omega)] at y
  refine oRun_ok 2 rfl ?_
  have loop : ∀ (q k : Nat), k + q = oSL.getD i 0 → (∀ j, j < k → f (t.2.1 + j) = (oSB.getD i []).getD j 0) → oG k_Reader_isWord 4 28 [some (.inr (K_READER, 0)), some (.inr (K_STR, i)), some (.inl (nI k))] [] M (fun r M' => (isW f t i → r = some 1) ∧ (¬ isW f t i → r = some 0) ∧ M' = M) := by
    intro q
    induction q with
    | zero =>
      intro k hk hb
      refine oRun_ok 2 rfl ?_
      refine g_callV rfl rfl rfl rfl rfl mok_String_length (by decide) (c_String_length M i hi) ?_
      rintro r M' ⟨rfl, e⟩; rw [e]
      refine g_ic_ge rfl (fun _ => ?_) (fun x => absurd ((nIle (by omega) (by omega)).mpr (by omega)) x)
      refine oRun_ok 1 rfl ?_
      exact g_iret rfl rfl rfl (yes ⟨z, y, fun j hj => hb j (by omega)⟩)
    | succ q ih =>
      intro k hk hb
      refine oRun_ok 2 rfl ?_
      refine g_callV rfl rfl rfl rfl rfl mok_String_length (by decide) (c_String_length M i hi) ?_
      rintro r M' ⟨rfl, e⟩; rw [e]
      refine g_ic_ge rfl (fun x => ?_) (fun _ => ?_)
      · rw [nIle (by omega) (by omega)] at x
        omega
      refine oRun_ok 6 rfl ?_
      rw [show M 22 0 3 = _ from h.2.2.1, nI_plus]
      refine g_iald (t.2.1 + k) rfl rfl rfl (by omega) ?_
      rw [show M 23 0 (t.2.1 + k) = _ from h.1 _ (by omega)]
      refine oRun_ok 2 rfl ?_
      refine g_callV rfl rfl rfl rfl rfl mok_String_charAt (by decide) (c_String_charAt M i k hi (by omega)) ?_
      rintro r M' ⟨rfl, e⟩; rw [e]
      refine g_ic_eq rfl (fun x => ?_) (fun x => ?_)
      · refine oRun_ok 2 rfl ?_
        rw [nI_1]
        refine ih (k + 1) (by omega) (fun j hj => ?_)
        by_cases hjk : j = k
        · rw [hjk]; exact x
        · exact hb j (by omega)
      · refine oRun_ok 1 rfl ?_
        exact g_iret rfl rfl rfl (no (fun w => x (w.2.2 k (by omega))))
  exact loop (oSL.getD i 0) 0 (by omega) (fun j hj => absurd hj (by omega))
/-- the key that the token names: 0, 1, 2, or 3 for none -/
noncomputable def kH (f : Nat → Int32) (t : Tk) : Nat := by
  classical
  exact if isW f t 0 then 0 else if isW f t 1 then 1 else if isW f t 2 then 2 else 3
theorem c_Reader_keyHere (M : oM) (f : Nat → Int32) (n : Nat) (t : Tk) (h : oRt M f n t) (h96 : n ≤ 96) (hv : Tv f n t) : oCt 5 k_Reader_keyHere [.inr (K_READER, 0)] M (fun r M' => (kH f t < 3 → r = some (nI (kH f t))) ∧ (¬ kH f t < 3 → r = some (-1)) ∧ M' = M) := by
  have w : ∀ i, i < 3 → oCt 4 k_Reader_isWord [.inr (K_READER, 0), .inr (K_STR, i)] M (fun r M' => (isW f t i → r = some 1) ∧ (¬ isW f t i → r = some 0) ∧ M' = M) := fun i hi => c_Reader_isWord M f n t i h h96 hv hi
  refine oCt.of (ls := [some (.inr (K_READER, 0))]) mok_Reader_keyHere rfl rfl ?_
  refine oRun_ok 1 rfl ?_
  refine g_ldcS (i := 0) rfl rfl (by decide) rfl ?_
  refine g_callV rfl rfl rfl rfl rfl mok_Reader_isWord (by decide) (w 0 (by decide)) ?_
  rintro r M1 ⟨r1, r2, e⟩; rw [e]
  by_cases q0 : isW f t 0
  · have ek : kH f t = 0 := by unfold kH; exact if_pos q0
    rw [r1 q0]
    refine g_if_eq rfl (fun h => absurd h (by decide)) (fun _ => ?_)
    refine oRun_ok 1 rfl ?_
    exact g_iret rfl rfl rfl ⟨fun _ => by rw [ek]; rfl, fun z => absurd ek (by omega), rfl⟩
  rw [r2 q0]
  refine g_if_eq rfl (fun _ => ?_) (fun h => absurd rfl h)
  refine oRun_ok 1 rfl ?_
  refine g_ldcS (i := 1) rfl rfl (by decide) rfl ?_
  refine g_callV rfl rfl rfl rfl rfl mok_Reader_isWord (by decide) (w 1 (by decide)) ?_
  rintro r M1 ⟨r1, r2, e⟩; rw [e]
  by_cases q1 : isW f t 1
  · have ek : kH f t = 1 := by unfold kH; exact (if_neg q0).trans (if_pos q1)
    rw [r1 q1]
    refine g_if_eq rfl (fun h => absurd h (by decide)) (fun _ => ?_)
    refine oRun_ok 1 rfl ?_
    exact g_iret rfl rfl rfl ⟨fun _ => by rw [ek]; rfl, fun z => absurd ek (by omega), rfl⟩
  rw [r2 q1]
  refine g_if_eq rfl (fun _ => ?_) (fun h => absurd rfl h)
  refine oRun_ok 1 rfl ?_
  refine g_ldcS (i := 2) rfl rfl (by decide) rfl ?_
  refine g_callV rfl rfl rfl rfl rfl mok_Reader_isWord (by decide) (w 2 (by decide)) ?_
  rintro r M1 ⟨r1, r2, e⟩; rw [e]
  by_cases q2 : isW f t 2
  · have ek : kH f t = 2 := by unfold kH; exact (if_neg q0).trans ((if_neg q1).trans (if_pos q2))
    rw [r1 q2]
    refine g_if_eq rfl (fun h => absurd h (by decide)) (fun _ => ?_)
    refine oRun_ok 2 rfl ?_
    exact g_iret rfl rfl rfl ⟨fun _ => by rw [ek]; rfl, fun z => absurd ek (by omega), rfl⟩
  have ek : kH f t = 3 := by unfold kH; exact (if_neg q0).trans ((if_neg q1).trans (if_neg q2))
  rw [r2 q2]
  refine g_if_eq rfl (fun _ => ?_) (fun h => absurd rfl h)
  refine oRun_ok 1 rfl ?_
  exact g_iret rfl rfl rfl ⟨fun z => absurd ek (by omega), fun _ => rfl, rfl⟩

