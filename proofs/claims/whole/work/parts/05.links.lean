/-! ===== classes and links: the words that rules use are among the tables' ===== -/
-- classes and links
def oCl (ci : Nat) : vw_C := vwCl.getD ci ("", TX0, 0)
def oTys : List (Nat → FieldType) := [tyX0, tyX1, tyX2, tyX3, tyX4, tyX5, tyX6, tyX7, tyX8, tyX9, tyX10]
def oTy (ci : Nat) : Nat → FieldType := oTys.getD ci tyX0
set_option maxRecDepth 100000 in
theorem oCl_ws0 : (List.range 11).all (fun ci => (u_ws (oCl ci).1 (oCl ci).2.1 (oCl ci).2.2).all (fun w => decide (w ∈ tables_1) && goodWord w)) = true := by decide +kernel
theorem oCl_ws {ci : Nat} (h : ci < 11) : ∀ w ∈ u_ws (oCl ci).1 (oCl ci).2.1 (oCl ci).2.2, w ∈ oGT := by
  intro w hw
  have h1 := List.all_eq_true.mp (List.all_eq_true.mp oCl_ws0 ci (List.mem_range.mpr h)) w hw
  simp only [Bool.and_eq_true, decide_eq_true_eq] at h1
  exact oGT_of h1.1 h1.2
theorem oCl_ty : ∀ ci, ci < 11 → ∀ k, k < (oCl ci).2.2 → parseFieldDescriptor ((oCl ci).2.1 k).2.2.1 = some (oTy ci k) := by decide +kernel
theorem oCl_nm : ∀ ci, ci < 11 → ∀ a, a < (oCl ci).2.2 → ∀ b, b < (oCl ci).2.2 → a ≠ b → ((oCl ci).2.1 a).2.1 ≠ ((oCl ci).2.1 b).2.1 := by decide +kernel
theorem oCl_at {ci : Nat} (h : ci < 11) : vwCl[ci]? = some (oCl ci) := by
  unfold oCl
  rw [List.getD_eq_getElem?_getD, List.getElem?_eq_getElem (by exact h)]
  rfl
def oLkF : List (Nat × Nat × Nat) → Nat → Option (Nat × Nat)
  | [], _ => none
  | q :: r, i => cond (Nat.beq q.1 i) (some q.2) (oLkF r i)
theorem oLkF_mem : ∀ (l : List (Nat × Nat × Nat)) (i : Nat) (r : Nat × Nat), oLkF l i = some r → (i, r) ∈ l
  | [], _, _, h => by cases h
  | q :: l, i, r, h => by
    unfold oLkF at h
    cases hb : Nat.beq q.1 i with
    | true =>
      rw [hb] at h
      have e : q.1 = i := Nat.eq_of_beq_eq_true hb
      have h2 : q.2 = r := by simpa using h
      rw [← e, ← h2]
      exact List.mem_cons_self
    | false =>
      rw [hb] at h
      exact List.mem_cons_of_mem _ (oLkF_mem l i r (by simpa using h))
def oFlC (o : Nat) (e : Nat × Nat × Nat) : Cond := .fieldLink (oCN o) e.1 ((oCl e.2.1).2.1 e.2.2).1 ((oCl e.2.1).2.1 e.2.2).2.1 ((oCl e.2.1).2.1 e.2.2).2.2.1
set_option maxRecDepth 100000 in
theorem oFL_ok0 : (List.range 25).all (fun o => (oFL o).all (fun e => decide (e.2.1 < 11) && decide (e.2.2 < (oCl e.2.1).2.2) && decide (oFlC o e ∈ tables_1))) = true := by decide +kernel
theorem oFL_ok {o idx ci f : Nat} (h : oLkF (oFL o) idx = some (ci, f)) : ci < 11 ∧ f < (oCl ci).2.2 ∧ oFlC o (idx, ci, f) ∈ oGT := by
  by_cases ho : o < 25
  · have h1 := List.all_eq_true.mp (List.all_eq_true.mp oFL_ok0 o (List.mem_range.mpr ho)) _ (oLkF_mem _ _ _ h)
    simp only [Bool.and_eq_true, decide_eq_true_eq] at h1
    exact ⟨h1.1.1, h1.1.2, oGT_of h1.2 rfl⟩
  · have hz : oFL o = [] := by
      unfold oFL
      rw [List.getD_eq_getElem?_getD, List.getElem?_eq_none (by simpa using ho)]
      rfl
    rw [hz] at h
    cases h
def oLkC : List (Nat × Int32) → Nat → Option Int32
  | [], _ => none
  | q :: r, i => cond (Nat.beq q.1 i) (some q.2) (oLkC r i)
theorem oLkC_mem : ∀ (l : List (Nat × Int32)) (i : Nat) (r : Int32), oLkC l i = some r → (i, r) ∈ l
  | [], _, _, h => by cases h
  | q :: l, i, r, h => by
    unfold oLkC at h
    cases hb : Nat.beq q.1 i with
    | true =>
      rw [hb] at h
      have e : q.1 = i := Nat.eq_of_beq_eq_true hb
      have h2 : q.2 = r := by simpa using h
      rw [← e, ← h2]
      exact List.mem_cons_self
    | false =>
      rw [hb] at h
      exact List.mem_cons_of_mem _ (oLkC_mem l i r (by simpa using h))
set_option maxRecDepth 100000 in
theorem oCL_ok0 : (List.range 25).all (fun o => (oCL o).all (fun e => decide (Cond.constant (oCN o) e.1 e.2 ∈ tables_1))) = true := by decide +kernel
theorem oCL_ok {o idx : Nat} {v : Int32} (h : oLkC (oCL o) idx = some v) : Cond.constant (oCN o) idx v ∈ oGT := by
  by_cases ho : o < 25
  · have h1 := List.all_eq_true.mp (List.all_eq_true.mp oCL_ok0 o (List.mem_range.mpr ho)) _ (oLkC_mem _ _ _ h)
    simp only [decide_eq_true_eq] at h1
    exact oGT_of h1 rfl
  · have hz : oCL o = [] := by
      unfold oCL
      rw [List.getD_eq_getElem?_getD, List.getElem?_eq_none (by simpa using ho)]
      rfl
    rw [hz] at h
    cases h
