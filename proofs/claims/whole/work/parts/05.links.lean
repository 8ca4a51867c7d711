/-! ===== classes and links: the words that rules use are among the tables' ===== -/
def oClP : List (List Nat) := [[240, 242, 244], [113, 115, 117, 119, 121, 123, 125, 127], [150, 152, 154, 156, 158, 160, 162, 164], [63, 65], [268, 270, 272, 274, 276, 278, 280, 282, 284], [300, 302, 304], [327, 329, 331, 333, 335, 337], [50, 52, 54, 56], [198, 200, 202, 204, 206, 208, 210, 212, 214, 216, 218, 220, 222, 224], [353, 355, 357, 359, 361, 363, 365, 367, 369, 371, 373, 375, 377], [1016, 1018, 1020, 1022, 1024, 1026, 1028, 1030, 1032, 1034, 1036, 1038, 1040, 1042, 1044, 1046, 1048, 1050, 1052, 1054, 1056, 1058, 1060, 1062, 1064, 1066, 1068, 1070, 1072, 1074, 1076, 1078, 1080, 1082, 1084, 1086, 1088, 1090, 1092, 1094, 1096]]
def oFLp : List (List Nat) := [[140, 174, 176, 179, 181, 235, 237, 239], [82, 85, 90, 94, 96, 101, 105, 109], [89, 95, 100, 130, 131, 133, 136, 139, 143, 146, 148], [42, 47, 49, 60, 62, 87, 92, 97], [253, 254, 256, 257, 259, 261, 263, 264, 267], [294, 296, 298], [102, 106, 110, 316, 318, 320, 322, 325], [41, 44, 46, 48, 260, 262, 265, 266], [81, 84, 91, 98, 103, 107, 111, 135, 138, 142, 144, 173, 175, 178, 182, 184, 186, 188, 190, 192, 193, 194, 195, 196, 197], [43, 45, 61, 83, 86, 88, 93, 99, 104, 108, 112, 132, 134, 137, 141, 145, 147, 149, 177, 180, 183, 185, 187, 189, 191, 236, 238, 255, 258, 295, 297, 299, 317, 319, 321, 323, 324, 326, 340, 341, 342, 343, 344, 345, 346, 347, 348, 349, 350, 351, 352], [975, 976, 977, 978, 979, 980, 981, 982, 983, 984, 985, 986, 987, 988, 989, 990, 991, 992, 993, 994, 995, 996, 997, 998, 999, 1000, 1001, 1002, 1003, 1004, 1005, 1006, 1007, 1008, 1009, 1010, 1011, 1012, 1013, 1014, 1015], [], [], [], [], [], [], [], [], [], [], [], [], [], []]
def oCLp : List (List Nat) := [[661], [], [453, 549], [452], [], [], [], [], [691], [390, 391, 526, 582, 716, 871, 876, 882, 883, 884, 936], [1111, 1112, 1214, 1231, 1262, 1401, 1406, 1407, 1408, 1409, 1441], [], [], [], [644, 645, 646], [], [], [], [], [], [], [], [], [], []]
-- classes and links
def oCl (ci : Nat) : vw_C := vwCl.getD ci ("", TX0, 0)
def oTys : List (Nat → FieldType) := [tyX0, tyX1, tyX2, tyX3, tyX4, tyX5, tyX6, tyX7, tyX8, tyX9, tyX10]
def oTy (ci : Nat) : Nat → FieldType := oTys.getD ci tyX0
def oAtP (l : List (List Nat)) (o j : Nat) : Nat := (l.getD o []).getD j 0
set_option maxRecDepth 100000 in
theorem oCl_ws0 : (List.range 11).all (fun ci => (List.range (oCl ci).2.2).all (fun j => decide (tables_1[oAtP oClP ci j]? = some (u_lay (oCl ci).1 (oCl ci).2.1 j)))) = true := by decide +kernel
theorem u_lay_good (C : String) (T : u_T) (k : Nat) : goodWord (u_lay C T k) = true := by
  unfold u_lay
  split <;> rfl
theorem oCl_ws {ci : Nat} (h : ci < 11) : ∀ w ∈ u_ws (oCl ci).1 (oCl ci).2.1 (oCl ci).2.2, w ∈ oGT := by
  intro w hw
  obtain ⟨j, hj, rfl⟩ := List.mem_map.mp hw
  have h1 := List.all_eq_true.mp (List.all_eq_true.mp oCl_ws0 ci (List.mem_range.mpr h)) j hj
  simp only [decide_eq_true_eq] at h1
  exact oGT_of (List.mem_of_getElem? h1) (u_lay_good _ _ _)
theorem oCl_ty : ∀ ci, ci < 11 → ∀ k, k < (oCl ci).2.2 → parseFieldDescriptor ((oCl ci).2.1 k).2.2.1 = some (oTy ci k) := by decide +kernel
theorem oCl_nm : ∀ ci, ci < 11 → ∀ a, a < (oCl ci).2.2 → ∀ b, b < (oCl ci).2.2 → a ≠ b → ((oCl ci).2.1 a).2.1 ≠ ((oCl ci).2.1 b).2.1 := by decide +kernel
theorem oCl_at {ci : Nat} (h : ci < 11) : vwCl[ci]? = some (oCl ci) := by
  unfold oCl
  rw [List.getD_eq_getElem?_getD, List.getElem?_eq_getElem (by exact h)]
  rfl
def oLkF : List (Nat × Nat × Nat) → Nat → Option (Nat × Nat)
  | [], _ => none
  | q :: r, i => cond (Nat.beq q.1 i) (some q.2) (oLkF r i)
theorem oLkF_mem : ∀ (l : List (Nat × Nat × Nat)) (i : Nat) (r : Nat × Nat), oLkF l i = some r → (i, r) ∈ l
  | [], _, _, h => by cases h
  | q :: l, i, r, h => by
    unfold oLkF at h
    cases hb : Nat.beq q.1 i with
    | true =>
      rw [hb] at h
      have e : q.1 = i := Nat.eq_of_beq_eq_true hb
      have h2 : q.2 = r := by simpa using h
      rw [← e, ← h2]
      exact List.mem_cons_self
    | false =>
      rw [hb] at h
      exact List.mem_cons_of_mem _ (oLkF_mem l i r (by simpa using h))
def oFlC (o : Nat) (e : Nat × Nat × Nat) : Cond := .fieldLink (oCN o) e.1 ((oCl e.2.1).2.1 e.2.2).1 ((oCl e.2.1).2.1 e.2.2).2.1 ((oCl e.2.1).2.1 e.2.2).2.2.1
set_option maxRecDepth 100000 in
theorem oFL_ok0 : (List.range 25).all (fun o => (List.range (oFL o).length).all (fun j => ((oFL o)[j]?).all (fun e => decide (e.2.1 < 11) && decide (e.2.2 < (oCl e.2.1).2.2) && decide (tables_1[oAtP oFLp o j]? = some (oFlC o e))))) = true := by decide +kernel
theorem oFL_ok {o idx ci f : Nat} (h : oLkF (oFL o) idx = some (ci, f)) : ci < 11 ∧ f < (oCl ci).2.2 ∧ oFlC o (idx, ci, f) ∈ oGT := by
  by_cases ho : o < 25
  · obtain ⟨j, hj⟩ := List.getElem?_of_mem (oLkF_mem _ _ _ h)
    have h1 := List.all_eq_true.mp (List.all_eq_true.mp oFL_ok0 o (List.mem_range.mpr ho)) j (List.mem_range.mpr (List.getElem?_eq_some_iff.mp hj).1)
    simp only [hj, Option.all_some, Bool.and_eq_true, decide_eq_true_eq] at h1
    exact ⟨h1.1.1, h1.1.2, oGT_of (List.mem_of_getElem? h1.2) rfl⟩
  · have hz : oFL o = [] := by
      unfold oFL
      rw [List.getD_eq_getElem?_getD, List.getElem?_eq_none (by simpa using ho)]
      rfl
    rw [hz] at h
    cases h
def oLkC : List (Nat × Int32) → Nat → Option Int32
  | [], _ => none
  | q :: r, i => cond (Nat.beq q.1 i) (some q.2) (oLkC r i)
theorem oLkC_mem : ∀ (l : List (Nat × Int32)) (i : Nat) (r : Int32), oLkC l i = some r → (i, r) ∈ l
  | [], _, _, h => by cases h
  | q :: l, i, r, h => by
    unfold oLkC at h
    cases hb : Nat.beq q.1 i with
    | true =>
      rw [hb] at h
      have e : q.1 = i := Nat.eq_of_beq_eq_true hb
      have h2 : q.2 = r := by simpa using h
      rw [← e, ← h2]
      exact List.mem_cons_self
    | false =>
      rw [hb] at h
      exact List.mem_cons_of_mem _ (oLkC_mem l i r (by simpa using h))
set_option maxRecDepth 100000 in
theorem oCL_ok0 : (List.range 25).all (fun o => (List.range (oCL o).length).all (fun j => ((oCL o)[j]?).all (fun e => decide (tables_1[oAtP oCLp o j]? = some (Cond.constant (oCN o) e.1 e.2))))) = true := by decide +kernel
theorem oCL_ok {o idx : Nat} {v : Int32} (h : oLkC (oCL o) idx = some v) : Cond.constant (oCN o) idx v ∈ oGT := by
  by_cases ho : o < 25
  · obtain ⟨j, hj⟩ := List.getElem?_of_mem (oLkC_mem _ _ _ h)
    have h1 := List.all_eq_true.mp (List.all_eq_true.mp oCL_ok0 o (List.mem_range.mpr ho)) j (List.mem_range.mpr (List.getElem?_eq_some_iff.mp hj).1)
    simp only [hj, Option.all_some, decide_eq_true_eq] at h1
    exact oGT_of (List.mem_of_getElem? h1) rfl
  · have hz : oCL o = [] := by
      unfold oCL
      rw [List.getD_eq_getElem?_getD, List.getElem?_eq_none (by simpa using ho)]
      rfl
    rw [hz] at h
    cases h
