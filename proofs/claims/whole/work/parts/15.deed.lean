/-! ===== Deed ===== -/
theorem c_Deed_beginAt (M : oM) (i : Nat) (c : Int32) : oCt 0 k_Deed_beginAt [.inr (K_DEED, i), .inl c] M (fun r M' => r = none ∧ M' = oUp (oUp M K_DEED i 0 (c / 100)) K_DEED i 1 (oRem c 100)) := by
  refine oCt.of (ls := [some (.inr (K_DEED, i)), some (.inl c)]) mok_Deed_beginAt rfl rfl ?_
  refine oRun_ok 10 rfl ?_
  exact g_ret rfl rfl ⟨rfl, rfl⟩
theorem c_Deed_hasNumber (M : oM) (i : Nat) (c : Int32) : oCt 1 k_Deed_hasNumber [.inr (K_DEED, i), .inl c] M (fun r M' => r = some (f_Oak_isWithin c 0 (M K_DEED i 4 - 1)) ∧ M' = M) := by
  refine oCt.of (ls := [some (.inr (K_DEED, i)), some (.inl c)]) mok_Deed_hasNumber rfl rfl ?_
  refine oRun_ok 6 rfl ?_
  refine g_callSN rfl rfl rfl rfl mok_Oak_isWithin (by decide) (c_Oak_isWithin M _ _ _) ?_
  rintro r8 M8 ⟨rfl, e⟩; rw [e]
  exact g_iret rfl rfl (n_Oak_isWithin _ _ _) ⟨rfl, rfl⟩
theorem c_Deed_addCall (M : oM) (i n : Nat) (a b c : Int32) (hn : M K_DEED i 4 = nI n) (h : n < 10) : oCt 0 k_Deed_addCall [.inr (K_DEED, i), .inl a, .inl b, .inl c] M (fun r M' => r = none ∧ M' = oUp (oUp (oUp (oUp M K_DK i n a) K_DW i n b) K_DL i n c) K_DEED i 4 (nI (n + 1))) := by
  refine oCt.of (ls := [some (.inr (K_DEED, i)), some (.inl a), some (.inl b), some (.inl c)]) mok_Deed_addCall rfl rfl ?_
  refine oRun_ok 3 rfl ?_
  refine g_ic_ge rfl (fun h6 => ?_) (fun h6 => ?_)
  · rw [hn, show (10 : Int32) = nI 10 from rfl, nIle (by omega) (by omega)] at h6
    omega
  · refine oRun_ok 5 rfl ?_
    refine g_iast n rfl rfl hn h ?_
    refine oRun_ok 5 rfl ?_
    refine g_iast n rfl rfl hn h ?_
    refine oRun_ok 5 rfl ?_
    refine g_iast n rfl rfl hn h ?_
    refine oRun_ok 6 rfl ?_
    refine g_ret rfl rfl ⟨rfl, ?_⟩
    rw [← nI_1 n, ← hn]
    rfl
/-- the cells of a deed -/
def oDS (i : Nat) : Nat → Nat → Prop := fun k i' => i' = i ∧ (k = K_DEED ∨ k = K_DK ∨ k = K_DW ∨ k = K_DL)
def Q_takeFrom (M : oM) (i j : Nat) : Option Int32 → oM → Prop := fun r M' => r = none ∧ (∀ w, w < 5 → M' K_DEED i w = M K_DEED j w) ∧ (∀ s, s < 10 → M' K_DK i s = M K_DK j s ∧ M' K_DW i s = M K_DW j s ∧ M' K_DL i s = M K_DL j s) ∧ oFr (oDS i) M M'
theorem c_Deed_takeFrom (M : oM) (i j : Nat) (hij : ¬ j = i) : oCt 0 k_Deed_takeFrom [.inr (K_DEED, i), .inr (K_DEED, j)] M (Q_takeFrom M i j) := by
  refine oCt.of (ls := [some (.inr (K_DEED, i)), some (.inr (K_DEED, j)), none]) mok_Deed_takeFrom rfl rfl ?_
  have loop : ∀ (n t : Nat) (M1 : oM), t + n = 10 → (∀ w, w < 5 → M1 K_DEED i w = M K_DEED j w) → (∀ s, s < t → M1 K_DK i s = M K_DK j s ∧ M1 K_DW i s = M K_DW j s ∧ M1 K_DL i s = M K_DL j s) → oFr (oDS i) M M1 → oG k_Deed_takeFrom 0 42 [some (.inr (K_DEED, i)), some (.inr (K_DEED, j)), some (.inl (nI t))] [] M1 (Q_takeFrom M i j) := by
    intro n
    induction n with
    | zero =>
      intro t M1 ht h1 h2 h3
      refine oRun_ok 2 rfl ?_
      refine g_ic_ge rfl (fun h45 => ?_) (fun h45 => ?_)
      · exact g_ret rfl rfl ⟨rfl, h1, fun s hs => h2 s (by omega), h3⟩
      · exact absurd (nI_le (a := 10) (b := t) (by omega) (by omega)) h45
    | succ n ih =>
      intro t M1 ht h1 h2 h3
      refine oRun_ok 2 rfl ?_
      refine g_ic_ge rfl (fun h45 => ?_) (fun h45 => ?_)
      · have := (nIle (a := 10) (b := t) (by omega) (by omega)).mp h45
        omega
      · have e : ∀ k, M1 k j = M k j := fun k => h3 k j (fun q => hij q.1)
        refine oRun_ok 6 rfl ?_
        refine g_iald t rfl rfl rfl (by omega) ?_
        refine g_iast t rfl rfl rfl (by omega) ?_
        refine oRun_ok 6 rfl ?_
        refine g_iald t rfl rfl rfl (by omega) ?_
        refine g_iast t rfl rfl rfl (by omega) ?_
        refine oRun_ok 6 rfl ?_
        refine g_iald t rfl rfl rfl (by omega) ?_
        refine g_iast t rfl rfl rfl (by omega) ?_
        refine oRun_ok 2 rfl ?_
        rw [nI_1]
        refine ih (t + 1) _ (by omega) h1 (fun s hs => ?_) (((h3.up ⟨rfl, Or.inr (Or.inl rfl)⟩).up ⟨rfl, Or.inr (Or.inr (Or.inl rfl))⟩).up ⟨rfl, Or.inr (Or.inr (Or.inr rfl))⟩)
        by_cases hst : s = t
        · subst hst
          refine ⟨?_, ?_, ?_⟩
          · show oUp M1 6 i s _ 6 i s = _
            rw [oUp_self, e]
          · show oUp (oUp M1 6 i s _) 7 i s _ 7 i s = _
            rw [oUp_self]
            show M1 7 j s = _
            rw [e]
          · show oUp (oUp (oUp M1 6 i s _) 7 i s _) 8 i s _ 8 i s = _
            rw [oUp_self]
            show M1 8 j s = _
            rw [e]
        · obtain ⟨a, b, c⟩ := h2 s (by omega)
          refine ⟨?_, ?_, ?_⟩
          · show oUp M1 6 i t _ 6 i s = _
            rw [oUp_j hst, a]
          · show oUp (oUp M1 6 i t _) 7 i t _ 7 i s = _
            rw [oUp_j hst]
            exact b
          · show oUp (oUp (oUp M1 6 i t _) 7 i t _) 8 i t _ 8 i s = _
            rw [oUp_j hst]
            exact c
  refine oRun_ok 22 rfl ?_
  refine loop 10 0 _ rfl (fun w hw => ?_) (fun s hs => by omega) (((((oFr.rf.up ⟨rfl, Or.inl rfl⟩).up ⟨rfl, Or.inl rfl⟩).up ⟨rfl, Or.inl rfl⟩).up ⟨rfl, Or.inl rfl⟩).up ⟨rfl, Or.inl rfl⟩)
  have hu : ∀ (M1 : oM) (a : Nat) (v : Int32) (b : Nat), oUp M1 5 i a v 5 j b = M1 5 j b := fun M1 a v b => by rw [oUp_i hij]
  simp only [hu]
  match w, hw with
  | 0, _ => simp [oUp]
  | 1, _ => simp [oUp]
  | 2, _ => simp [oUp]
  | 3, _ => simp [oUp]
  | 4, _ => simp [oUp]
/-- a row from which place c is gone, up to t -/
def oGone (c t : Nat) (f : Nat → Int32) : Nat → Int32 := fun j => if c ≤ j ∧ j < t then f (j + 1) else f j
theorem oGone_0 (c : Nat) (f : Nat → Int32) : oGone c c f = f := by
  funext j
  unfold oGone
  rw [if_neg (by omega)]
theorem oGone_s {c t : Nat} {f : Nat → Int32} (h : c ≤ t) : (fun j' => if j' = t then oGone c t f (t + 1) else oGone c t f j') = oGone c (t + 1) f := by
  funext j
  by_cases hj : j = t
  · subst hj
    show (if j = j then oGone c j f (j + 1) else _) = _
    rw [if_pos rfl]
    unfold oGone
    rw [if_neg (by omega), if_pos (by omega)]
  · show (if j = t then _ else oGone c t f j) = _
    rw [if_neg hj]
    unfold oGone
    by_cases h1 : c ≤ j ∧ j < t
    · rw [if_pos h1, if_pos (by omega)]
    · rw [if_neg h1, if_neg (by omega)]
def Q_removeCall (M : oM) (i c n : Nat) : Option Int32 → oM → Prop := fun r M' => r = none ∧ M' K_DEED i 4 = nI (n - 1) ∧ (∀ w, ¬ w = 4 → M' K_DEED i w = M K_DEED i w) ∧ M' K_DK i = oGone c (n - 1) (M K_DK i) ∧ M' K_DW i = oGone c (n - 1) (M K_DW i) ∧ M' K_DL i = oGone c (n - 1) (M K_DL i) ∧ oFr (oDS i) M M'
theorem c_Deed_removeCall (M : oM) (i c n : Nat) (hn : M K_DEED i 4 = nI n) (hc : c < n) (h10 : n ≤ 10) : oCt 2 k_Deed_removeCall [.inr (K_DEED, i), .inl (nI c)] M (Q_removeCall M i c n) := by
  refine oCt.of (ls := [some (.inr (K_DEED, i)), some (.inl (nI c)), none]) mok_Deed_removeCall rfl rfl ?_
  have loop : ∀ (q t : Nat) (M1 : oM), t + 1 + q = n → c ≤ t → M1 K_DEED i = M K_DEED i → M1 K_DK i = oGone c t (M K_DK i) → M1 K_DW i = oGone c t (M K_DW i) → M1 K_DL i = oGone c t (M K_DL i) → oFr (oDS i) M M1 → oG k_Deed_removeCall 2 11 [some (.inr (K_DEED, i)), some (.inl (nI c)), some (.inl (nI t))] [] M1 (Q_removeCall M i c n) := by
    intro q
    induction q with
    | zero =>
      intro t M1 ht hct h0 h1 h2 h3 h4
      have ht : t = n - 1 := by omega
      refine oRun_ok 5 rfl ?_
      refine g_ic_ge rfl (fun h18 => ?_) (fun h18 => ?_)
      · refine oRun_ok 6 rfl ?_
        refine g_ret rfl rfl ⟨rfl, ?_, fun w hw => ?_, ?_, ?_, ?_, h4.up ⟨rfl, Or.inl rfl⟩⟩
        · rw [oUp_self, h0, hn]
          exact nIsub (b := 1) (by omega)
        · rw [oUp_j hw, h0]
        · rw [← ht]; exact h1
        · rw [← ht]; exact h2
        · rw [← ht]; exact h3
      · rw [nI_1, h0, hn, nIle (by omega) (by omega)] at h18
        omega
    | succ q ih =>
      intro t M1 ht hct h0 h1 h2 h3 h4
      refine oRun_ok 5 rfl ?_
      refine g_ic_ge rfl (fun h18 => ?_) (fun h18 => ?_)
      · rw [nI_1, h0, hn, nIle (by omega) (by omega)] at h18
        omega
      · refine oRun_ok 8 rfl ?_
        refine g_iald (t + 1) rfl rfl (nI_1 t) (by omega) ?_
        refine g_iast t rfl rfl rfl (by omega) ?_
        refine oRun_ok 8 rfl ?_
        refine g_iald (t + 1) rfl rfl (nI_1 t) (by omega) ?_
        refine g_iast t rfl rfl rfl (by omega) ?_
        refine oRun_ok 8 rfl ?_
        refine g_iald (t + 1) rfl rfl (nI_1 t) (by omega) ?_
        refine g_iast t rfl rfl rfl (by omega) ?_
        refine oRun_ok 2 rfl ?_
        rw [nI_1]
        refine ih (t + 1) _ (by omega) (by omega) h0 ?_ ?_ ?_ (((h4.up ⟨rfl, Or.inr (Or.inl rfl)⟩).up ⟨rfl, Or.inr (Or.inr (Or.inl rfl))⟩).up ⟨rfl, Or.inr (Or.inr (Or.inr rfl))⟩)
        · show oUp M1 6 i t (M1 6 i (t + 1)) 6 i = _
          rw [oUp_at, h1, oGone_s hct]
        · show oUp (oUp M1 6 i t _) 7 i t (M1 7 i (t + 1)) 7 i = _
          rw [oUp_at]
          show (fun j' => if j' = t then M1 7 i (t + 1) else M1 7 i j') = _
          rw [h2, oGone_s hct]
        · show oUp (oUp (oUp M1 6 i t _) 7 i t _) 8 i t (M1 8 i (t + 1)) 8 i = _
          rw [oUp_at]
          show (fun j' => if j' = t then M1 8 i (t + 1) else M1 8 i j') = _
          rw [h3, oGone_s hct]
  refine oRun_ok 2 rfl ?_
  refine g_callV rfl rfl rfl rfl rfl mok_Deed_hasNumber (by decide) (c_Deed_hasNumber M i (nI c)) ?_
  rintro r2 M2 ⟨rfl, e⟩; rw [e]
  refine g_if_ne rfl (fun h5 => ?_) (fun h5 => ?_)
  · refine oRun_ok 2 rfl ?_
    exact loop (n - 1 - c) c M (by omega) (Nat.le_refl c) rfl (oGone_0 c _).symm (oGone_0 c _).symm (oGone_0 c _).symm oFr.rf
  · rw [hn, wiN (by omega) (by omega)] at h5
    exact absurd hc h5
