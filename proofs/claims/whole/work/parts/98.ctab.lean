-- made by gen_ctab.py
def yNTs : List (Nat × Nat × Nat × Nat × Nat × Nat) := [(2, 18, 1, 74, 76, 5), (3, 9, 7, 34, 36, 3), (6, 15, 5, 314, 289, 9), (9, 9, 3, 28, 29, 2), (9, 16, 2, 68, 69, 4), (9, 28, 8, 167, 168, 6), (9, 40, 0, 227, 228, 7), (9, 50, 4, 247, 248, 8), (9, 57, 5, 287, 289, 9), (9, 64, 6, 307, 309, 10), (24, 7, 9, 20, 21, 1), (24, 10, 10, 969, 970, 11)]
def yATs : List (Nat × Nat × Nat × Nat × Nat × Nat) := [(2, 18, 1, 4, 74, 75), (3, 9, 7, 3, 34, 35), (9, 57, 5, 5, 287, 288), (9, 64, 6, 6, 307, 308)]
def yOTs : List (Nat × Nat × Nat) := [(0, 3, 232), (1, 3, 80), (2, 3, 73), (3, 3, 33), (4, 3, 252), (5, 3, 293), (6, 3, 313), (7, 3, 40), (8, 3, 172), (9, 3, 25), (10, 1, 974)]
def yInits : List Nat := [0, 7, 13, 25, 30, 45, 50, 52, 54, 70, 131]
set_option maxRecDepth 100000 in
theorem mok_Cells_init : oMok k_Cells_init := ⟨by decide, oDecB_ok (by decide +kernel), by rfl⟩
set_option maxRecDepth 100000 in
theorem mok_Deed_init : oMok k_Deed_init := ⟨by decide, oDecB_ok (by decide +kernel), by rfl⟩
set_option maxRecDepth 100000 in
theorem mok_Land_init : oMok k_Land_init := ⟨by decide, oDecB_ok (by decide +kernel), by rfl⟩
set_option maxRecDepth 100000 in
theorem mok_Laws_init : oMok k_Laws_init := ⟨by decide, oDecB_ok (by decide +kernel), by rfl⟩
set_option maxRecDepth 100000 in
theorem mok_Reader_init : oMok k_Reader_init := ⟨by decide, oDecB_ok (by decide +kernel), by rfl⟩
set_option maxRecDepth 100000 in
theorem mok_Row_init : oMok k_Row_init := ⟨by decide, oDecB_ok (by decide +kernel), by rfl⟩
set_option maxRecDepth 100000 in
theorem mok_Slot_init : oMok k_Slot_init := ⟨by decide, oDecB_ok (by decide +kernel), by rfl⟩
set_option maxRecDepth 100000 in
theorem mok_Text_init : oMok k_Text_init := ⟨by decide, oDecB_ok (by decide +kernel), by rfl⟩
set_option maxRecDepth 100000 in
theorem mok_Walk_init : oMok k_Walk_init := ⟨by decide, oDecB_ok (by decide +kernel), by rfl⟩
set_option maxRecDepth 100000 in
theorem mok_Oak_init : oMok k_Oak_init := ⟨by decide, oDecB_ok (by decide +kernel), by rfl⟩
set_option maxRecDepth 100000 in
theorem mok_Mod_init : oMok k_Mod_init := ⟨by decide, oDecB_ok (by decide +kernel), by rfl⟩
theorem yInits_ok : ∀ k ∈ yInits, oMok k := by
  unfold yInits
  simp only [List.forall_mem_cons]
  exact ⟨mok_Cells_init, mok_Deed_init, mok_Land_init, mok_Laws_init, mok_Reader_init, mok_Row_init, mok_Slot_init, mok_Text_init, mok_Walk_init, mok_Oak_init, mok_Mod_init, fun _ h => by cases h⟩
def yPs : Nat × Nat × Nat × Nat × Nat × Nat × Nat × Nat := (26, 27, 59, 1100, 1099, 233, 234, 0)
set_option maxRecDepth 100000 in
theorem yNTs_ok : yNTs.all (fun e => decide (e.2.2.1 < 11) && decide (tables_1[e.2.2.2.1]? = some (.classLink (oCN e.1) e.2.1 (oCl e.2.2.1).1)) && decide (tables_1[e.2.2.2.2.1]? = some (.instantiable (oCl e.2.2.1).1 (oCl e.2.2.1).2.2)) && decide (tables_1[e.2.2.2.2.2]? = some (.initialized (oCl e.2.2.1).1))) = true := by decide +kernel
set_option maxRecDepth 100000 in
theorem yATs_ok : yATs.all (fun e => decide (e.2.2.1 < 11) && decide (tables_1[e.2.2.2.2.1]? = some (.classLink (oCN e.1) e.2.1 (oCl e.2.2.1).1)) && decide (tables_1[e.2.2.2.2.2]? = some (.arrayOver (.object (oCl e.2.2.1).1)))) = true := by decide +kernel
set_option maxRecDepth 100000 in
theorem yOTs_ok : yOTs.all (fun e => decide (tables_1[e.2.2]? = some (.methodLink (oCN e.1) e.2.1 Lib.objectInit))) = true := by decide +kernel
def yLk3 : List (Nat × Nat × Nat × Nat × Nat × Nat) → Nat → Nat → Option (Nat × Nat)
  | [], _, _ => none
  | q :: r, o, i => cond (Nat.beq q.1 o && Nat.beq q.2.1 i) (some (q.2.2.1, q.2.2.2.1)) (yLk3 r o i)
theorem yLk3_mem : ∀ (l : List (Nat × Nat × Nat × Nat × Nat × Nat)) (o i : Nat) (r : Nat × Nat), yLk3 l o i = some r → ∃ q ∈ l, q.1 = o ∧ q.2.1 = i ∧ (q.2.2.1, q.2.2.2.1) = r
  | [], _, _, _, h => by cases h
  | q :: l, o, i, r, h => by
    unfold yLk3 at h
    cases hb : (Nat.beq q.1 o && Nat.beq q.2.1 i) with
    | true =>
      rw [hb] at h
      rw [Bool.and_eq_true] at hb
      exact ⟨q, List.mem_cons_self, Nat.eq_of_beq_eq_true hb.1, Nat.eq_of_beq_eq_true hb.2, by simpa using h⟩
    | false =>
      rw [hb] at h
      obtain ⟨x, h1, h2⟩ := yLk3_mem l o i r (by simpa using h)
      exact ⟨x, List.mem_cons_of_mem _ h1, h2⟩
theorem yNew_ok {o i ci z : Nat} (h : yLk3 yNTs o i = some (ci, z)) : ci < 11 ∧ Cond.classLink (oCN o) i (oCl ci).1 ∈ oGT ∧ Cond.instantiable (oCl ci).1 (oCl ci).2.2 ∈ oGT ∧ Cond.initialized (oCl ci).1 ∈ oGT := by
  obtain ⟨q, h1, rfl, rfl, h4⟩ := yLk3_mem _ _ _ _ h
  cases h4
  have := List.all_eq_true.mp yNTs_ok q h1
  simp only [Bool.and_eq_true, decide_eq_true_eq] at this
  exact ⟨this.1.1.1, oGT_of (List.mem_of_getElem? this.1.1.2) rfl, oGT_of (List.mem_of_getElem? this.1.2) rfl, oGT_of (List.mem_of_getElem? this.2) rfl⟩
/-- the element class of an array type -/
def yEl (ty : Nat) : Option Nat := if ty = 3 then some 7 else if ty = 4 then some 1 else if ty = 5 then some 5 else if ty = 6 then some 6 else none
theorem yATs_el : yATs.all (fun e => decide (yEl e.2.2.2.1 = some e.2.2.1)) = true := by decide +kernel
theorem yEl_otys {E : oE} {ty ci : Nat} (h : yEl ty = some ci) : ci < 11 ∧ (otys E)[ty]? = some (ocA E ty, .object (oCl ci).1) := by
  unfold yEl at h
  by_cases h3 : ty = 3
  · rw [if_pos h3] at h; cases h; subst h3; exact ⟨by decide, rfl⟩
  · rw [if_neg h3] at h
    by_cases h4 : ty = 4
    · rw [if_pos h4] at h; cases h; subst h4; exact ⟨by decide, rfl⟩
    · rw [if_neg h4] at h
      by_cases h5 : ty = 5
      · rw [if_pos h5] at h; cases h; subst h5; exact ⟨by decide, rfl⟩
      · rw [if_neg h5] at h
        by_cases h6 : ty = 6
        · rw [if_pos h6] at h; cases h; subst h6; exact ⟨by decide, rfl⟩
        · rw [if_neg h6] at h; cases h
/-- the words of arrays over classes: they go from state to state by themselves -/
def yAO (U : State) : Prop := (∀ e ∈ yATs, va_AO (oCl e.2.2.1).1 U) ∧ (Cond.arrayOver (.array .int)).before #[] U = true
theorem yANew_ok {o i ci ty : Nat} (h : yLk3 yATs o i = some (ci, ty)) : ci < 11 ∧ Cond.classLink (oCN o) i (oCl ci).1 ∈ oGT ∧ yEl ty = some ci ∧ ∀ U, yAO U → va_AO (oCl ci).1 U := by
  obtain ⟨q, h1, rfl, rfl, h4⟩ := yLk3_mem _ _ _ _ h
  cases h4
  have := List.all_eq_true.mp yATs_ok q h1
  simp only [Bool.and_eq_true, decide_eq_true_eq] at this
  have h5 := List.all_eq_true.mp yATs_el q h1
  simp only [decide_eq_true_eq] at h5
  exact ⟨this.1.1, oGT_of (List.mem_of_getElem? this.1.2) rfl, h5, fun U hU => hU.1 q h1⟩
theorem yAO_moved {u U : State} (hvm : u.vm.Alike U.vm) (h : yAO u) : yAO U := by
  refine ⟨fun e he => (h.1 e he).moved hvm, ?_⟩
  have h2 := h.2
  unfold Cond.before Cond.holds at h2 ⊢
  simp only [Cond.value, beq_iff_eq] at h2 ⊢
  obtain ⟨comp, h1, h2⟩ := Option.bind_eq_some_iff.mp h2
  obtain ⟨c, hi, h3⟩ := Option.bind_eq_some_iff.mp h2
  obtain ⟨k, hk, hb⟩ := Option.map_eq_some_iff.mp h3
  obtain ⟨k', hk', he⟩ := hvm.2.2 _ _ hk
  have hkind : k'.kind = k.kind := by rw [he]
  refine Option.bind_eq_some_iff.mpr ⟨comp, by rw [hvm.findClass]; exact h1, Option.bind_eq_some_iff.mpr ⟨c, ?_, Option.map_eq_some_iff.mpr ⟨k', hk', ?_⟩⟩⟩
  · have e1 := va_idx_bare U.vm comp
    have e2 := va_idx_bare u.vm comp
    have e3 : u.vm.bare = U.vm.bare := by first | exact hvm.bare_eq | exact hvm.bare_eq.symm
    exact (e1.symm.trans (by rw [← e3])).trans (e2.trans hi)
  · rw [hkind, hvm.findClass]
    exact hb
def yLk2 : List (Nat × Nat × Nat) → Nat → Nat → Bool
  | [], _, _ => false
  | q :: r, o, i => (Nat.beq q.1 o && Nat.beq q.2.1 i) || yLk2 r o i
theorem yLk2_mem : ∀ (l : List (Nat × Nat × Nat)) (o i : Nat), yLk2 l o i = true → ∃ q ∈ l, q.1 = o ∧ q.2.1 = i
  | [], _, _, h => by cases h
  | q :: l, o, i, h => by
    unfold yLk2 at h
    rw [Bool.or_eq_true, Bool.and_eq_true] at h
    rcases h with h | h
    · exact ⟨q, List.mem_cons_self, Nat.eq_of_beq_eq_true h.1, Nat.eq_of_beq_eq_true h.2⟩
    · obtain ⟨x, h1, h2⟩ := yLk2_mem l o i h
      exact ⟨x, List.mem_cons_of_mem _ h1, h2⟩
theorem yObj_ok {o i : Nat} (h : yLk2 yOTs o i = true) : Cond.methodLink (oCN o) i Lib.objectInit ∈ oGT := by
  obtain ⟨q, h1, rfl, rfl⟩ := yLk2_mem _ _ _ h
  have := List.all_eq_true.mp yOTs_ok q h1
  simp only [decide_eq_true_eq] at this
  exact oGT_of (List.mem_of_getElem? this) rfl
theorem yObj_in : Cond.instanceMethod Lib.objectInit ∈ oGT := oGT_of (List.mem_of_getElem? (i := yPs.1) (by decide +kernel)) rfl
theorem yObj_code : Cond.code Lib.objectInit ⟨#[0xb1]⟩ 1 none ∈ oGT := oGT_of (List.mem_of_getElem? (i := yPs.2.1) (by decide +kernel)) rfl
theorem yArr_int : Cond.arrayClass .int ∈ oGT := oGT_of (List.mem_of_getElem? (i := yPs.2.2.1) (by decide +kernel)) rfl
theorem yArr_boolean : Cond.arrayClass .boolean ∈ oGT := oGT_of (List.mem_of_getElem? (i := yPs.2.2.2.1) (by decide +kernel)) rfl
theorem yArr_char : Cond.arrayClass .char ∈ oGT := oGT_of (List.mem_of_getElem? (i := yPs.2.2.2.2.1) (by decide +kernel)) rfl
theorem yMul_link : Cond.classLink (oCN 0) 9 ("[" ++ (FieldType.array .int).toString) ∈ oGT := oGT_of (List.mem_of_getElem? (i := yPs.2.2.2.2.2.1) (by decide +kernel)) rfl
theorem oLks_I {o idx k' n p : Nat} (h : oLkM (oLks o) idx = some (3, k', n, p)) : k' < 237 ∧ oNP k' = n ∧ oStat k' = false ∧ oIni k' = true ∧ Cond.methodLink (oCN o) idx (oMY k') ∈ oGT := by
  obtain ⟨ho, hm⟩ := oLks_at h
  have h1 := List.all_eq_true.mp (List.all_eq_true.mp oLks_all o (List.mem_range.mpr ho)) _ hm
  simp only [Bool.and_eq_true, decide_eq_true_eq, Bool.not_eq_true'] at h1
  exact ⟨h1.1.1, h1.1.2, h1.2.1.1, h1.2.1.2, oLw_gt h1.2.2 rfl⟩
theorem oLks_IN {o idx k' n p : Nat} (h : oLkM (oLks o) idx = some (4, k', n, p)) : k' < 237 ∧ oNP k' = n ∧ oStat k' = false ∧ oIni k' = true ∧ Cond.methodLinkNest (oCN o) idx (oMY k') "OakDeeds" ∈ oNW := by
  obtain ⟨ho, hm⟩ := oLks_at h
  have h1 := List.all_eq_true.mp (List.all_eq_true.mp oLks_all o (List.mem_range.mpr ho)) _ hm
  simp only [Bool.and_eq_true, decide_eq_true_eq, Bool.not_eq_true'] at h1
  exact ⟨h1.1.1, h1.1.2, h1.2.1.1, h1.2.1.2, List.mem_of_getElem? h1.2.2⟩
theorem yInits_nm : yInits.all (fun k => decide ((oMY k).name = "<init>") && decide (oMR k = none) && oIni k && !(oStat k)) = true := by decide +kernel

