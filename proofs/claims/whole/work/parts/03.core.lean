/-! ===== values, memory, environment ===== -/
abbrev oV : Type := Int32 ⊕ (Nat × Nat)
abbrev oM : Type := Nat → Nat → Nat → Int32
def oUp (M : oM) (k i j : Nat) (v : Int32) : oM := fun k' => if k' = k then (fun i' => if i' = i then (fun j' => if j' = j then v else M k i j') else M k i') else M k'
abbrev oE : Type := va_G × (Nat → Nat → Nat) × (Nat → ClassId) × Nat × (Nat → Int32) × Value
abbrev oad (E : oE) : Nat → Nat → Nat := E.2.1
abbrev ocA (E : oE) : Nat → ClassId := E.2.2.1
abbrev oL (E : oE) : Nat := E.2.2.2.1
abbrev oxs (E : oE) : Nat → Int32 := E.2.2.2.2.1
abbrev oov (E : oE) : Value := E.2.2.2.2.2
def oKD (k : Nat) : oKT := oKDs.getD k (.inl (99, []))
def oCnt (k : Nat) : Nat := oCnts.getD k 0
def oRfv (E : oE) (k i : Nat) : Value := if k = K_OPQ then oov E else .ref (oad E k i)
def ocv (E : oE) (v : oV) : Value := match v with
  | .inl x => .int x
  | .inr q => oRfv E q.1 q.2
def oOk (v : oV) : Prop := match v with
  | .inl _ => True
  | .inr q => q.2 < oCnt q.1
def oFV (E : oE) (f : Nat → Int32) (i : Nat) : Nat → List (Option (Nat × Nat × Nat)) → List Value
  | _, [] => []
  | j, none :: r => .int (f j) :: oFV E f i (j + 1) r
  | j, some (k', a, b) :: r => .ref (oad E k' (a * i + b)) :: oFV E f i (j + 1) r
def oEnt0 (E : oE) (f : Nat → Int32) (i : Nat) (t : oKT) : va_E := match t with
  | .inl (ci, fds) => .inr (ci, oFV E f i 0 fds)
  | .inr (ty, n, none) => .inl (ocA E ty, n, .inl f)
  | .inr (ty, n, some (k', a)) => .inl (ocA E ty, n, .inr (.inr (.inr (.inr (fun j => some (oad E k' (a * i + j)))))))
def oEnt (E : oE) (M : oM) (k i : Nat) : va_E := oEnt0 E (M k i) i (oKD k)
def oPK : List (Nat × Nat) := (List.range oNK).flatMap (fun k => (List.range (oCnt k)).map (fun i => (k, i)))
def oWS (E : oE) (M : oM) : va_W := oPK.map (fun q => (oad E q.1 q.2, oEnt E M q.1 q.2))
def oA (E : oE) : Nat → Prop := fun q => ∃ k i, k < oNK ∧ i < oCnt k ∧ q = oad E k i
def oInj (E : oE) : Prop := ∀ k i k' i', k < oNK → i < oCnt k → k' < oNK → i' < oCnt k' → oad E k i = oad E k' i' → k = k' ∧ i = i'
def otys (E : oE) : List (ClassId × FieldType) := [(ocA E 0, .int), (ocA E 1, .boolean), (ocA E 2, .char), (ocA E 3, .object "OakDeeds$Text"), (ocA E 4, .object "OakDeeds$Deed"), (ocA E 5, .object "OakDeeds$Row"), (ocA E 6, .object "OakDeeds$Slot"), (ocA E 7, .array .int)]
-- what is only read: the script, three tables, three strings, two statics
def oTN (i : Nat) : Nat := ([6, 8, 8] : List Nat).getD i 0
def oTS (i : Nat) : String := (["ABOVE", "STEP_X", "STEP_Y"] : List String).getD i ""
def oTV (i j : Nat) : Int32 := (([[-1, 0, 0, 1, 2, 0], [1, 1, 0, -1, -1, -1, 0, 1], [0, 1, 1, 1, 0, -1, -1, -1]] : List (List Int32)).getD i []).getD j 0
def oSL : List Nat := [6, 5, 5]
def oSB : List (List Int32) := [[110, 101, 101, 100, 108, 101], [99, 104, 97, 105, 110], [102, 105, 114, 115, 116]]
def oSI (i : Nat) : Nat := ([59, 65, 67] : List Nat).getD i 0
def oST (i : Nat) : String := (["needle", "chain", "first"] : List String).getD i ""
def oRO (E : oE) (A : Nat → Prop) (U : State) (H : Heap) : Prop :=
  va_X (oad E K_SCR 0) (oL E) (oxs E) U H ∧ (oad E K_SCR 0 < H.size ∧ ¬ A (oad E K_SCR 0)) ∧
  (∀ i, i < 3 → va_T .int (oad E K_TAB i) (oTN i) (fun j => .int (oTV i j)) A U H) ∧
  (∀ i, i < 3 → va_Z "OakDeeds" (oTS i) "[I" (.ref (oad E K_TAB i)) A U H) ∧
  vk_S 3 oSL oSB (oad E K_STR) (oad E K_SBY) A U H ∧
  va_Z "java/lang/String" "COMPACT_STRINGS" "Z" (.int 1) A U H ∧
  va_Z "jdk/internal/util/Preconditions" "SIOOBE_FORMATTER" "Ljava/util/function/BiFunction;" (oov E) A U H ∧ (oov E = .null ∨ ∃ a, oov E = .ref a) ∧
  (∀ i, i < 3 → vk_R "OakDeeds$Reader" (oSI i) (oST i) (oad E K_STR i) U)
theorem oRO.warm {E : oE} {A : Nat → Prop} {s U : State} {H H1 : Heap} (hW : s.WarmedH U.vm) (h : oRO E A s H) (hz : H.size ≤ H1.size) (hq : ∀ a : Nat, a < H.size → ¬ A a → H1[a]? = H[a]?) : oRO E A U H1 := by
  obtain ⟨h1, h2, h3, h4, h5, h6, h7, h8, h9⟩ := h
  exact ⟨(h1.moved hW.alike).kept (hq _ h2.1 h2.2), ⟨Nat.lt_of_lt_of_le h2.1 hz, h2.2⟩, fun i hi => ((h3 i hi).moved hW.alike).kept hq, fun i hi => ((h4 i hi).moved hW.alike).kept hq, (h5.moved hW.alike).kept hq, (h6.moved hW.alike).kept hq, (h7.moved hW.alike).kept hq, h8, fun i hi => (h9 i hi).warm hW⟩
theorem oRO.same {E : oE} {A : Nat → Prop} {s U : State} {H : Heap} (hv : U.vm = s.vm) (h : oRO E A s H) : oRO E A U H := by
  have hA : s.vm.Alike U.vm := by rw [hv]; exact Vm.Alike.refl s.vm
  obtain ⟨h1, h2, h3, h4, h5, h6, h7, h8, h9⟩ := h
  exact ⟨h1.moved hA, h2, fun i hi => (h3 i hi).moved hA, fun i hi => (h4 i hi).moved hA, h5.moved hA, h6.moved hA, h7.moved hA, h8, fun i hi => (h9 i hi).same hv⟩
theorem oRO.narrow {E : oE} {A B : Nat → Prop} {U : State} {H : Heap} (h : oRO E A U H) (hAB : ∀ q, B q → A q) : oRO E B U H := by
  obtain ⟨h1, h2, h3, h4, h5, h6, h7, h8, h9⟩ := h
  exact ⟨h1, ⟨h2.1, fun z => h2.2 (hAB _ z)⟩, fun i hi => (h3 i hi).narrow hAB, fun i hi => (h4 i hi).narrow hAB, h5.narrow hAB, h6.narrow hAB, h7.narrow hAB, h8, h9⟩
-- the places of the cells
theorem oPK_mem {k i : Nat} (hk : k < oNK) (hi : i < oCnt k) : (k, i) ∈ oPK := by
  unfold oPK
  exact List.mem_flatMap.mpr ⟨k, List.mem_range.mpr hk, List.mem_map.mpr ⟨i, List.mem_range.mpr hi, rfl⟩⟩
theorem oPK_ok {k i : Nat} (h : (k, i) ∈ oPK) : k < oNK ∧ i < oCnt k := by
  unfold oPK at h
  obtain ⟨k', h1, h2⟩ := List.mem_flatMap.mp h
  obtain ⟨i', h3, h4⟩ := List.mem_map.mp h2
  cases h4
  exact ⟨List.mem_range.mp h1, List.mem_range.mp h3⟩
set_option maxRecDepth 100000 in
theorem oPK_nodup : oPK.Nodup := by decide +kernel
theorem oPK_at {k i : Nat} (hk : k < oNK) (hi : i < oCnt k) : ∃ p : Nat, oPK[p]? = some (k, i) := List.getElem?_of_mem (oPK_mem hk hi)
theorem oPK_inj {p p' : Nat} {q : Nat × Nat} (h : oPK[p]? = some q) (h' : oPK[p']? = some q) : p = p' := by
  obtain ⟨l1, e1⟩ := List.getElem?_eq_some_iff.mp h
  obtain ⟨l2, e2⟩ := List.getElem?_eq_some_iff.mp h'
  have hpw := List.pairwise_iff_getElem.mp oPK_nodup
  rcases Nat.lt_trichotomy p p' with hlt | heq | hgt
  · exact absurd (e1.trans e2.symm) (hpw p p' l1 l2 hlt)
  · exact heq
  · exact absurd (e2.trans e1.symm) (hpw p' p l2 l1 hgt)
theorem oWS_at {E : oE} {M : oM} {p k i : Nat} (h : oPK[p]? = some (k, i)) : (oWS E M)[p]? = some (oad E k i, oEnt E M k i) := by
  unfold oWS
  rw [List.getElem?_map, h]
  rfl
theorem oEnt_congr {E : oE} {M M' : oM} {k i : Nat} (h : M k i = M' k i) : oEnt E M k i = oEnt E M' k i := by
  unfold oEnt
  rw [h]
theorem oUp_ne {M : oM} {k i j : Nat} {v : Int32} {k' i' : Nat} (h : ¬ (k' = k ∧ i' = i)) : oUp M k i j v k' i' = M k' i' := by
  unfold oUp
  by_cases hk : k' = k
  · subst hk
    have hi : ¬ i' = i := fun q => h ⟨rfl, q⟩
    rw [if_pos rfl, if_neg hi]
  · rw [if_neg hk]
theorem oUp_at {M : oM} {k i j : Nat} {v : Int32} : oUp M k i j v k i = (fun j' => if j' = j then v else M k i j') := by
  unfold oUp
  rw [if_pos rfl, if_pos rfl]
/-- a cell's new contents, a memory's: the memory that differs there alone -/
theorem oWS_set {E : oE} {M M' : oM} {p k i : Nat} (h : oPK[p]? = some (k, i)) (hM : ∀ k' i', ¬ (k' = k ∧ i' = i) → M' k' i' = M k' i') : (oWS E M).set p (oad E k i, oEnt E M' k i) = oWS E M' := by
  have hl := (List.getElem?_eq_some_iff.mp h).1
  apply List.ext_getElem?
  intro q
  by_cases hq : q = p
  · subst hq
    rw [List.getElem?_set_self (by unfold oWS; rw [List.length_map]; exact hl), oWS_at h]
  · rw [List.getElem?_set_ne (Ne.symm hq)]
    unfold oWS
    rw [List.getElem?_map, List.getElem?_map]
    cases hz : oPK[q]? with
    | none => rfl
    | some z =>
      obtain ⟨k', i'⟩ := z
      have hne : ¬ (k' = k ∧ i' = i) := by
        rintro ⟨rfl, rfl⟩
        exact hq (oPK_inj hz h)
      show some (oad E k' i', oEnt E M k' i') = some (oad E k' i', oEnt E M' k' i')
      rw [oEnt_congr (hM k' i' hne).symm]
theorem oWS_D {E : oE} {M : oM} (h : oInj E) : va_D (oA E) (oWS E M) := by
  have key : ∀ (p : Nat) (q : Nat × va_E), (oWS E M)[p]? = some q → ∃ k i, oPK[p]? = some (k, i) ∧ k < oNK ∧ i < oCnt k ∧ q.1 = oad E k i := by
    intro p q hq
    unfold oWS at hq
    rw [List.getElem?_map] at hq
    cases hz : oPK[p]? with
    | none => rw [hz] at hq; cases hq
    | some z =>
      rw [hz] at hq
      obtain ⟨k, i⟩ := z
      cases hq
      obtain ⟨h1, h2⟩ := oPK_ok (List.mem_of_getElem? hz)
      exact ⟨k, i, rfl, h1, h2, rfl⟩
  refine ⟨fun p p' q q' hp hp' hqq => ?_, fun p q hp => ?_⟩
  · obtain ⟨k, i, a1, a2, a3, a4⟩ := key p q hp
    obtain ⟨k', i', b1, b2, b3, b4⟩ := key p' q' hp'
    obtain ⟨rfl, rfl⟩ := h k i k' i' a2 a3 b2 b3 (by rw [← a4, ← b4]; exact hqq)
    exact oPK_inj a1 b1
  · obtain ⟨k, i, -, a2, a3, a4⟩ := key p q hp
    exact ⟨k, i, a2, a3, a4⟩
-- locals
def oEn (E : oE) : Nat → List (Option oV) → List (Nat × Value)
  | _, [] => []
  | n, none :: r => oEn E (n + 1) r
  | n, some v :: r => (n, ocv E v) :: oEn E (n + 1) r
theorem oEn_mem {E : oE} : ∀ (l : List (Option oV)) (n : Nat) (q : Nat × Value), q ∈ oEn E n l ↔ ∃ i v, l[i]? = some (some v) ∧ q = (n + i, ocv E v)
  | [], n, q => by simp [oEn]
  | none :: r, n, q => by
    rw [oEn, oEn_mem r (n + 1) q]
    constructor
    · rintro ⟨i, v, h1, h2⟩
      exact ⟨i + 1, v, by simpa using h1, by rw [h2, show n + 1 + i = n + (i + 1) by omega]⟩
    · rintro ⟨i, v, h1, h2⟩
      cases i with
      | zero => simp at h1
      | succ i => exact ⟨i, v, by simpa using h1, by rw [h2, show n + 1 + i = n + (i + 1) by omega]⟩
  | some w :: r, n, q => by
    rw [oEn, List.mem_cons, oEn_mem r (n + 1) q]
    constructor
    · rintro (rfl | ⟨i, v, h1, h2⟩)
      · exact ⟨0, w, rfl, rfl⟩
      · exact ⟨i + 1, v, by simpa using h1, by rw [h2, show n + 1 + i = n + (i + 1) by omega]⟩
    · rintro ⟨i, v, h1, h2⟩
      cases i with
      | zero =>
        left
        have : w = v := by simpa using h1
        rw [h2, this]
        rfl
      | succ i => exact Or.inr ⟨i, v, by simpa using h1, by rw [h2, show n + 1 + i = n + (i + 1) by omega]⟩
theorem oLv_get {E : oE} {la : Array Slot} {nL : Nat} {ls : List (Option oV)} {i : Nat} {v : oV} (h : lv_has la nL (oEn E 0 ls)) (hi : ls[i]? = some (some v)) : la[i]? = some (.val (ocv E v)) := h.2.2 (i, ocv E v) ((oEn_mem ls 0 _).mpr ⟨i, v, hi, by rw [Nat.zero_add]⟩)
theorem ocv_cat (E : oE) (h : oov E = .null ∨ ∃ a, oov E = .ref a) (v : oV) : (ocv E v).category = 1 := by
  cases v with
  | inl x => rfl
  | inr q =>
    show (oRfv E q.1 q.2).category = 1
    unfold oRfv
    by_cases hq : q.1 = K_OPQ
    · rw [if_pos hq]
      rcases h with h | ⟨a, h⟩ <;> rw [h] <;> rfl
    · rw [if_neg hq]
      rfl
theorem oLv_set {E : oE} {la' : Array Slot} {nL : Nat} {ls : List (Option oV)} {i : Nat} {v : oV} {w : Value} (hw : w = ocv E v) (h : lv_has la' nL ((i, w) :: (oEn E 0 ls).filter (fun q => !(q.1 == i) && !(q.1 + 1 == i && q.2.category == 2)))) (hov : oov E = .null ∨ ∃ a, oov E = .ref a) : lv_has la' nL (oEn E 0 (ls.set i (some v))) := by
  subst hw
  refine ⟨h.1, h.2.1, fun q hq => ?_⟩
  obtain ⟨j, u, h1, h2⟩ := (oEn_mem _ 0 q).mp hq
  rw [Nat.zero_add] at h2
  subst h2
  by_cases hj : j = i
  · subst hj
    have hl : j < ls.length := by
      have := (List.getElem?_eq_some_iff.mp h1).1
      simpa using this
    rw [List.getElem?_set_self hl] at h1
    cases h1
    exact h.2.2 (j, ocv E v) List.mem_cons_self
  · rw [List.getElem?_set_ne (Ne.symm hj)] at h1
    refine h.2.2 (j, ocv E u) (List.mem_cons_of_mem _ (List.mem_filter.mpr ⟨(oEn_mem ls 0 _).mpr ⟨j, u, h1, by rw [Nat.zero_add]⟩, ?_⟩))
    simp [hj, ocv_cat E hov u]
def oScr (E : oE) (M : oM) : Prop := M K_SCR 1 0 = nI (oL E) ∧ oL E ≤ 384 ∧ ∀ j, j < oL E → oxs E j = M K_SCR 0 j
def oRep (E : oE) (M : oM) (H : Heap) : Prop := va_P E.1 vwCl (oWS E M) H ∧ oScr E M
theorem oScr_up {E : oE} {M : oM} {k i j : Nat} {v : Int32} (hk : k < oNK) (h : oScr E M) : oScr E (oUp M k i j v) := by
  have e : ∀ i', oUp M k i j v K_SCR i' = M K_SCR i' := fun i' => oUp_ne (fun q => by have := q.1; unfold oNK at hk; unfold K_SCR at this; omega)
  unfold oScr
  rw [e, e]
  exact h
