/-! ===== what is given at the start ===== -/
-- made by gen_start.py
def yNWp : List Nat := [37, 77, 229, 249, 290, 310, 315, 400, 458, 510, 577, 578, 580, 595, 753, 881]
def yLSp : List Nat := [525, 579, 581]
def ySRp : List Nat := [758, 811, 812]
def yZp : List Nat := [1, 772, 15, 788, 17]
def yFC : List Cond := flatC (Jvm.Cond.and given_1 narrow_1)
set_option maxRecDepth 100000 in
theorem yNW_ok : (List.range 16).all (fun j => decide (tables_1[yNWp.getD j 0]? = oNW[j]?)) = true := by decide +kernel
theorem yNW_len : oNW.length = 16 := rfl
theorem yNW_in : ∀ w ∈ oNW, w ∈ lw_tbl := by
  intro w hw
  obtain ⟨j, hj⟩ := List.getElem?_of_mem hw
  have hl : j < 16 := (List.getElem?_eq_some_iff.mp hj).1
  have h1 := List.all_eq_true.mp yNW_ok j (List.mem_range.mpr hl)
  rw [decide_eq_true_eq] at h1
  exact List.mem_append_right _ (List.mem_of_getElem? (h1.trans hj))
abbrev yTt (i : Nat) : Term := .static "OakDeeds" (oTS i) "[I"
set_option maxRecDepth 100000 in
theorem yT_ok : (List.range 3).all (fun i => decide (Cond.arrayOf (yTt i) .int ∈ yFC) && decide (Cond.eq (.length (yTt i)) (.int (Int32.ofNat (oTN i))) ∈ yFC) && (List.range (oTN i)).all (fun j => decide (Cond.eq (.elem (yTt i) (.int (Int32.ofNat j))) (.int (oTV i j)) ∈ yFC)) && decide (tables_1[yLSp.getD i 0]? = some (.laysStatic "OakDeeds" (oTS i) "[I")) && decide (oTN i < 2 ^ 31)) = true := by decide +kernel
abbrev yStT (i : Nat) : Term := .string "OakDeeds$Reader" (oSI i)
abbrev yStV (i : Nat) : Term := .field (yStT i) "java/lang/String" "value" "[B"
set_option maxRecDepth 100000 in
theorem yS_ok : (List.range 3).all (fun i => decide (Cond.exactly (yStT i) "java/lang/String" ∈ yFC) && decide (Cond.eq (.field (yStT i) "java/lang/String" "coder" "B") (.int 0) ∈ yFC) && decide (Cond.arrayOf (yStV i) .byte ∈ yFC) && decide (Cond.eq (.length (yStV i)) (.int (Int32.ofNat (oSL.getD i 0))) ∈ yFC) && (List.range (oSL.getD i 0)).all (fun j => decide (Cond.eq (.elem (yStV i) (.int (Int32.ofNat j))) (.int ((oSB.getD i []).getD j 0)) ∈ yFC)) && (List.range 3).all (fun j => decide (i = j) || decide (Cond.not (Cond.eq (yStT i) (yStT j)) ∈ yFC) || decide (Cond.not (Cond.eq (yStT j) (yStT i)) ∈ yFC)) && decide (tables_1[ySRp.getD i 0]? = some (.stringRef "OakDeeds$Reader" (oSI i) (oST i))) && decide (oSL.getD i 0 < 2 ^ 31)) = true := by decide +kernel
set_option maxRecDepth 100000 in
theorem yZ_ok : tables_1[yZp.getD 0 0]? = some (.initialized "OakDeeds") ∧ tables_1[yZp.getD 1 0]? = some (.laysStatic "java/lang/String" "COMPACT_STRINGS" "Z") ∧ tables_1[yZp.getD 2 0]? = some (.initialized "java/lang/String") ∧ tables_1[yZp.getD 3 0]? = some (.laysStatic "jdk/internal/util/Preconditions" "SIOOBE_FORMATTER" "Ljava/util/function/BiFunction;") ∧ tables_1[yZp.getD 4 0]? = some (.initialized "jdk/internal/util/Preconditions") ∧ Cond.eq (.static "java/lang/String" "COMPACT_STRINGS" "Z") (.int 1) ∈ yFC ∧ Cond.isRef (.static "jdk/internal/util/Preconditions" "SIOOBE_FORMATTER" "Ljava/util/function/BiFunction;") ∈ yFC := by decide +kernel
theorem yCls_all : ∀ ci, ci < 11 → ∃ e ∈ yNTs, e.2.2.1 = ci := by decide +kernel
theorem yInst {ci : Nat} (h : ci < 11) : Cond.instantiable (oCl ci).1 (oCl ci).2.2 ∈ oGT := by
  obtain ⟨e, h1, rfl⟩ := yCls_all ci h
  have := List.all_eq_true.mp yNTs_ok e h1
  simp only [Bool.and_eq_true, decide_eq_true_eq] at this
  exact oGT_of (List.mem_of_getElem? this.1.2) rfl
section YGIVEN
variable {s : State} {args : Array Value} {A : Nat → Prop}
theorem yG_classes (hts : ∀ w ∈ oGT, w.before args s = true) : ∃ D : va_G, ∀ (c : Nat) (q : vw_C), vwCl[c]? = some q → u_Kn s q.1 q.2.1 q.2.2 (D.1 c) (D.2 c) := by
  have h0 : ∀ ci : Nat, ∃ q : ClassId × (Nat → Nat), ci < 11 → u_Kn s (oCl ci).1 (oCl ci).2.1 (oCl ci).2.2 q.1 q.2 := by
    intro ci
    by_cases hci : ci < 11
    · obtain ⟨cC, iS, h⟩ := u_known hts (oCl_ws hci) (hts _ (yInst hci))
      exact ⟨(cC, iS), fun _ => h⟩
    · exact ⟨(0, fun _ => 0), fun h => absurd h hci⟩
  obtain ⟨f, hf⟩ := Classical.axiomOfChoice h0
  refine ⟨(fun ci => (f ci).1, fun ci => (f ci).2), fun c q hq => ?_⟩
  have hc : c < 11 := (List.getElem?_eq_some_iff.mp hq).1
  have e : oCl c = q := Option.some.inj ((oCl_at hc).symm.trans hq)
  subst e
  exact hf c hc
theorem yG_prim {ty : FieldType} (h : (Cond.arrayClass ty).before args s = true) : ∃ cA, ArrOfT s cA ty ∧ s.vm.findClass ("[" ++ ty.toString) = some cA := by
  obtain ⟨cA, kA, comp, h1, h2, h3⟩ := Cond.arrayClass_spec h
  exact ⟨cA, fun n z => ⟨fun k h => (by cases h), kA, h2, comp, h3⟩, h1⟩
theorem yG_obj {C : String} (h : va_AO C s) : ∃ cA, ArrOfT s cA (.object C) ∧ va_RA s cA (.object C) := by
  obtain ⟨comp, c, k, h1, h2, h3, h4, h5⟩ := Cond.arrayOver_spec h
  exact ⟨c, fun n z => ⟨fun k h => (by cases h), k, h3, comp, h4⟩, k, comp, h3, h4, h1, h5⟩
theorem yG_arr (h : (Cond.arrayOver (.array .int)).before #[] s = true) : ∃ cA, ArrOfT s cA (.array .int) ∧ s.vm.findClass ("[" ++ (FieldType.array .int).toString) = some cA := by
  obtain ⟨comp, c, k, -, -, hk, hkind, hn⟩ := arrayOverA_spec h
  exact ⟨c, fun n z => ⟨fun k h => (by cases h), k, hk, comp, hkind⟩, hn⟩
theorem yG_arrays (hts : ∀ w ∈ oGT, w.before args s = true) (hAO : yAO s) : ∃ cA : Nat → ClassId, ∀ (k : Nat) (q : ClassId × FieldType), ([(cA 0, .int), (cA 1, .boolean), (cA 2, .char), (cA 3, .object "OakDeeds$Text"), (cA 4, .object "OakDeeds$Deed"), (cA 5, .object "OakDeeds$Row"), (cA 6, .object "OakDeeds$Slot"), (cA 7, .array .int)] : List (ClassId × FieldType))[k]? = some q → ArrOfT s q.1 q.2 ∧ va_RA s q.1 q.2 := by
  obtain ⟨c0, a0, b0⟩ := yG_prim (hts _ yArr_int)
  obtain ⟨c1, a1, b1⟩ := yG_prim (hts _ yArr_boolean)
  obtain ⟨c2, a2, b2⟩ := yG_prim (hts _ yArr_char)
  obtain ⟨c3, a3, b3⟩ := yG_obj (hAO.1 (3, 9, 7, 3, 34, 35) (by decide))
  obtain ⟨c4, a4, b4⟩ := yG_obj (hAO.1 (2, 18, 1, 4, 74, 75) (by decide))
  obtain ⟨c5, a5, b5⟩ := yG_obj (hAO.1 (9, 57, 5, 5, 287, 288) (by decide))
  obtain ⟨c6, a6, b6⟩ := yG_obj (hAO.1 (9, 64, 6, 6, 307, 308) (by decide))
  obtain ⟨c7, a7, b7⟩ := yG_arr hAO.2
  refine ⟨fun j => [c0, c1, c2, c3, c4, c5, c6, c7].getD j c0, fun k q hq => ?_⟩
  have hk : k < 8 := (List.getElem?_eq_some_iff.mp hq).1
  rcases (show k = 0 ∨ k = 1 ∨ k = 2 ∨ k = 3 ∨ k = 4 ∨ k = 5 ∨ k = 6 ∨ k = 7 by omega) with rfl | rfl | rfl | rfl | rfl | rfl | rfl | rfl
  · cases hq; exact ⟨a0, b0⟩
  · cases hq; exact ⟨a1, b1⟩
  · cases hq; exact ⟨a2, b2⟩
  · cases hq; exact ⟨a3, b3⟩
  · cases hq; exact ⟨a4, b4⟩
  · cases hq; exact ⟨a5, b5⟩
  · cases hq; exact ⟨a6, b6⟩
  · cases hq; exact ⟨a7, b7⟩
theorem yG_tabs (ht : ∀ w ∈ tables_1, w.before args s = true) (hq : ∀ w ∈ yFC, w.before args s = true) (hA : ∀ a : Nat, a < s.heap.size → ¬ A a) : ∃ adT : Nat → Nat, ∀ i, i < 3 → va_T .int (adT i) (oTN i) (fun j => .int (oTV i j)) A s s.heap ∧ va_Z "OakDeeds" (oTS i) "[I" (.ref (adT i)) A s s.heap := by
  have h0 : ∀ i : Nat, ∃ t : Nat, i < 3 → va_T .int t (oTN i) (fun j => .int (oTV i j)) A s s.heap ∧ va_Z "OakDeeds" (oTS i) "[I" (.ref t) A s s.heap := by
    intro i
    by_cases hi : i < 3
    · have h1 := List.all_eq_true.mp yT_ok i (List.mem_range.mpr hi)
      simp only [Bool.and_eq_true, decide_eq_true_eq] at h1
      obtain ⟨⟨⟨⟨b1, b2⟩, b3⟩, b4⟩, b5⟩ := h1
      obtain ⟨t, e1, e2⟩ := va_Tof (tm := yTt i) (f := fun j => .int (oTV i j)) (A := A) b5 (hq _ b1) (va_eqt (hq _ b2)) (fun j hj => va_eqt (hq _ (by
        have := List.all_eq_true.mp b3 j (List.mem_range.mpr hj)
        rw [decide_eq_true_eq] at this
        exact this))) hA
      exact ⟨t, fun _ => ⟨e2, va_Zof (ht _ (List.mem_of_getElem? b4)) (ht _ (List.mem_of_getElem? yZ_ok.1)) e1 hA⟩⟩
    · exact ⟨0, fun h => absurd h hi⟩
  exact Classical.axiomOfChoice h0
theorem yG_strs (ht : ∀ w ∈ tables_1, w.before args s = true) (hq : ∀ w ∈ yFC, w.before args s = true) (hA : ∀ a : Nat, a < s.heap.size → ¬ A a) : ∃ adK adV : Nat → Nat, vk_S 3 oSL oSB adK adV A s s.heap ∧ ∀ i, i < 3 → vk_R "OakDeeds$Reader" (oSI i) (oST i) (adK i) s := by
  have h1 : ∀ i, i < 3 → _ := fun i hi => List.all_eq_true.mp yS_ok i (List.mem_range.mpr hi)
  simp only [Bool.and_eq_true, Bool.or_eq_true, decide_eq_true_eq] at h1
  obtain ⟨adK, adV, g1, g2⟩ := vk_Sof (args := args) (s := s) (N := 3) (tm := yStT) (len := oSL) (byt := oSB) (A := A) (fun i hi => (h1 i hi).2) (fun i hi => hq _ (h1 i hi).1.1.1.1.1.1.1) (fun i hi => hq _ (h1 i hi).1.1.1.1.1.1.2) (fun i hi => hq _ (h1 i hi).1.1.1.1.1.2) (fun i hi => hq _ (h1 i hi).1.1.1.1.2) (fun i hi j hj => hq _ (by
      have := List.all_eq_true.mp (h1 i hi).1.1.1.2 j (List.mem_range.mpr hj)
      rw [decide_eq_true_eq] at this
      exact this)) (fun i j hi hj hne => by
      have := List.all_eq_true.mp (h1 i hi).1.1.2 j (List.mem_range.mpr hj)
      simp only [Bool.or_eq_true, decide_eq_true_eq] at this
      rcases this with (h | h) | h
      · exact absurd h hne
      · exact Or.inl (hq _ h)
      · exact Or.inr (hq _ h)) hA
  exact ⟨adK, adV, g1, fun i hi => vk_R.of (ht _ (List.mem_of_getElem? (h1 i hi).1.2)) (g2 i hi)⟩
theorem yG_stat (ht : ∀ w ∈ tables_1, w.before args s = true) (hq : ∀ w ∈ yFC, w.before args s = true) (hA : ∀ a : Nat, a < s.heap.size → ¬ A a) : va_Z "java/lang/String" "COMPACT_STRINGS" "Z" (.int 1) A s s.heap ∧ ∃ ov : Value, va_Z "jdk/internal/util/Preconditions" "SIOOBE_FORMATTER" "Ljava/util/function/BiFunction;" ov A s s.heap ∧ (ov = .null ∨ ∃ a, ov = .ref a) := by
  obtain ⟨z0, z1, z2, z3, z4, z5, z6⟩ := yZ_ok
  refine ⟨va_Zof (ht _ (List.mem_of_getElem? z1)) (ht _ (List.mem_of_getElem? z2)) (va_eqi (hq _ z5)) hA, ?_⟩
  obtain ⟨v, hv, hr⟩ := Cond.isRef_spec (hq _ z6)
  refine ⟨v, va_Zof (ht _ (List.mem_of_getElem? z3)) (ht _ (List.mem_of_getElem? z4)) hv hA, ?_⟩
  cases v <;> first | exact Or.inl rfl | exact Or.inr ⟨_, rfl⟩ | (cases hr)
end YGIVEN
