/-! ===== an array of arrays: the row of the machine ===== -/
theorem yG_over {args : Array Value} {s : State} (h : (Cond.arrayOver (.array .int)).before args s = true) : ∃ comp c k, s.vm.findClass (FieldType.array .int).toString = some comp ∧ s.vm.classes[c]? = some k ∧ k.kind = .array comp (.array .int) ∧ s.vm.findClass ("[" ++ (FieldType.array .int).toString) = some c := by
  unfold Cond.before Cond.holds at h
  simp only [Cond.value, beq_iff_eq] at h
  obtain ⟨comp, h1, h2⟩ := Option.bind_eq_some_iff.mp h
  obtain ⟨c, hi, h3⟩ := Option.bind_eq_some_iff.mp h2
  obtain ⟨k, hk, hb⟩ := Option.map_eq_some_iff.mp h3
  obtain ⟨hlt, hp, -⟩ := Array.findIdx?_eq_some_iff_getElem.mp hi
  rw [(Array.getElem?_eq_some_iff.mp hk).2] at hp
  cases hkind : k.kind with
  | array c' ty =>
    rw [hkind] at hb hp
    simp at hb hp
    exact ⟨comp, c, k, h1, hk, by rw [hkind, hp, hb.1], hb.2⟩
  | _ => rw [hkind] at hb; simp at hb
def yRo (h i : Nat) : Nat → Value := fun j => if j < i then .ref (h + 1 + j) else .null
theorem yRo_0 (h : Nat) : yRo h 0 = fun _ => .null := by
  funext j
  exact if_neg (Nat.not_lt_zero j)
theorem yRo_succ (h i : Nat) : updV (yRo h i) i (.ref (h + 1 + i)) = yRo h (i + 1) := by
  funext j
  unfold updV yRo
  by_cases hj : j = i
  · subst hj
    rw [if_pos rfl, if_pos (by omega)]
  · rw [if_neg hj]
    by_cases hl : j < i
    · rw [if_pos hl, if_pos (by omega)]
    · rw [if_neg hl, if_neg (by omega)]
/-- the outer array and its first i rows -/
def yFil (U : State) (cA cI : ClassId) (N K : Nat) : Nat → State
  | 0 => U.pushCell (arrV cA N (yRo U.heap.size 0))
  | i + 1 => ((yFil U cA cI N K i).pushCell (arrV cI K (fun _ => .int 0))).setCell U.heap.size (arrV cA N (yRo U.heap.size (i + 1)))
theorem yPush_size (U : State) (x : Cell) : (U.pushCell x).heap.size = U.heap.size + 1 := by simp [State.pushCell]
theorem yFil_ok (U : State) (cA cI : ClassId) (N K : Nat) : ∀ i : Nat, (yFil U cA cI N K i).heap.size = U.heap.size + 1 + i ∧ (yFil U cA cI N K i).heap[U.heap.size]? = some (arrV cA N (yRo U.heap.size i)) ∧ (yFil U cA cI N K i).vm = U.vm ∧ (yFil U cA cI N K i).slotsUsed = U.slotsUsed + N + i * K ∧ (∀ a : Nat, a < U.heap.size → (yFil U cA cI N K i).heap[a]? = U.heap[a]?) ∧ ∀ j : Nat, j < i → (yFil U cA cI N K i).heap[U.heap.size + 1 + j]? = some (arrV cI K (fun _ => .int 0))
  | 0 => by
    refine ⟨yPush_size U _, State.heap_pushCell_size _ _, rfl, ?_, fun a ha => State.heap_pushCell_of_lt _ _ ha, fun j hj => absurd hj (Nat.not_lt_zero j)⟩
    show U.slotsUsed + (arrV cA N (yRo U.heap.size 0)).slots.size = _
    rw [arrV_size]
    omega
  | i + 1 => by
    obtain ⟨h1, h2, h3, h4, h5, h6⟩ := yFil_ok U cA cI N K i
    have hz : ((yFil U cA cI N K i).pushCell (arrV cI K (fun _ => .int 0))).heap.size = U.heap.size + 1 + i + 1 := by rw [yPush_size, h1]
    have q1 : U.heap.size < ((yFil U cA cI N K i).pushCell (arrV cI K (fun _ => .int 0))).heap.size := by rw [hz]; omega
    have q2 : ∀ a : Nat, a < U.heap.size + 1 + i → ((yFil U cA cI N K i).pushCell (arrV cI K (fun _ => .int 0))).heap[a]? = (yFil U cA cI N K i).heap[a]? := fun a ha => State.heap_pushCell_of_lt _ _ (by rw [h1]; exact ha)
    refine ⟨?_, heapAt_setCell_self _ q1, h3, ?_, fun a ha => ?_, fun j hj => ?_⟩
    · show (((yFil U cA cI N K i).pushCell (arrV cI K (fun _ => .int 0))).setCell U.heap.size _).heap.size = _
      rw [size_setCell, hz]
      omega
    · show (yFil U cA cI N K i).slotsUsed + (arrV cI K (fun _ => .int 0)).slots.size = _
      rw [arrV_size, h4, Nat.succ_mul]
      omega
    · show (((yFil U cA cI N K i).pushCell (arrV cI K (fun _ => .int 0))).setCell U.heap.size _).heap[a]? = _
      rw [heapAt_setCell_ne _ (Nat.ne_of_gt ha), q2 a (by omega)]
      exact h5 a ha
    · show (((yFil U cA cI N K i).pushCell (arrV cI K (fun _ => .int 0))).setCell U.heap.size _).heap[U.heap.size + 1 + j]? = _
      rw [heapAt_setCell_ne _ (show U.heap.size ≠ U.heap.size + 1 + j by omega)]
      by_cases hji : j = i
      · subst hji
        rw [← h1]
        exact State.heap_pushCell_size _ _
      · rw [q2 _ (by omega)]
        exact h6 j (by omega)
theorem yFil_top (U : State) (f : JFrame) (cA cI : ClassId) (N K : Nat) : ∀ i : Nat, yFil (U.setTop f) cA cI N K i = (yFil U cA cI N K i).setTop f
  | 0 => rfl
  | i + 1 => by
    unfold yFil
    rw [yFil_top U f cA cI N K i]
    simp only [State.heap_setTop, State.pushCell_setTop, State.setCell_setTop]
theorem yFil_stand {p : Program} {l : Launch} {e : Env} {R : Room} {s : State} {m : MethodId} {args : Array Value} {below : List Frame} {meth : Method} {c : Code} {T : State} {locs : List Loc} {cells slots : Nat} (X : Stand p l e R s m args below meth c T locs cells slots) (cA cI : ClassId) (N K : Nat) : ∀ i : Nat, Stand p l e R s m args below meth c (yFil T cA cI N K i) locs (cells + 1 + i) (slots + N + i * K)
  | 0 => by
    have h := X.pushed (arrV cA N (yRo T.heap.size 0))
    rw [arrV_size] at h
    rw [Nat.zero_mul]
    exact h
  | i + 1 => by
    have Xi := yFil_stand X cA cI N K i
    obtain ⟨h1, h2, -⟩ := yFil_ok T cA cI N K i
    have hc : ((yFil T cA cI N K i).pushCell (arrV cI K (fun _ => .int 0))).heap[T.heap.size]? = some (arrV cA N (yRo T.heap.size i)) := (State.heap_pushCell_of_lt _ _ (show T.heap.size < (yFil T cA cI N K i).heap.size by rw [h1]; omega)).trans h2
    have h := (Xi.pushed (arrV cI K (fun _ => .int 0))).stored hc i (.ref (T.heap.size + 1 + i))
    rw [arrV_store, yRo_succ, arrV_size] at h
    have h' := h.dropFresh (fun x hx => by rw [List.mem_singleton.mp hx]; exact X.heapGrown)
    rw [Nat.succ_mul, show slots + N + (i * K + K) = slots + N + i * K + K by omega]
    exact h'
/-- what the model's 'make' does for two dimensions of ints -/
theorem yMake {E : CtlPost} {e : Env} {d : Bool} {acts : List Action} {U : State} {cA cI cc : ClassId} {kA kI : Class} {n b : Int32} (hkA : U.vm.classes[cA]? = some kA) (hA : kA.kind = .array cI (.array .int)) (hkI : U.vm.classes[cI]? = some kI) (hI : kI.kind = .array cc .int) (hn : ¬ n < 0) (hb : ¬ b < 0)
    (l1 : ¬ n.toNatClampNeg > e.platform.arrayLengthLimit) (l2 : ¬ n.toNatClampNeg * componentBytes (.array .int) > e.platform.maxHeapBytes) (l3 : ¬ b.toNatClampNeg > e.platform.arrayLengthLimit) (l4 : ¬ b.toNatClampNeg * componentBytes .int > e.platform.maxHeapBytes)
    (r1 : U.heap.size + 1 + n.toNatClampNeg ≤ e.platform.maxCells) (r2 : U.slotsUsed + n.toNatClampNeg + n.toNatClampNeg * b.toNatClampNeg ≤ e.platform.maxSlots)
    {Q : Addr → Pre} (hq : ∀ d' acts', Q U.heap.size d' acts' (yFil U cA cI n.toNatClampNeg b.toNatClampNeg n.toNatClampNeg)) : wp (multianewarray.make cA [n, b]) Q E e d acts U := by
  have hfind : ([b].find? (· < 0)) = none := by simp [hb]
  rw [multianewarray.make]
  simp only [wp_bind', W.ite, hn, if_false, wp_pure', W.theClass, hkA, hA, Option.some.injEq, exists_eq_left']
  refine W.newArray_of hkA hA l1 l2 (by omega) (by have := Nat.zero_le (n.toNatClampNeg * b.toNatClampNeg); omega) rfl (fun acts1 => ?_)
  simp only [hfind]
  rw [ite_self, wp_bind', Std.Legacy.Range.forIn_eq_forIn_range']
  have hsz : ([:n.toNatClampNeg] : Std.Legacy.Range).size = n.toNatClampNeg := by simp [Std.Legacy.Range.size]
  rw [hsz]
  have hstart : U.pushCell ({ cls := cA, slots := Array.replicate n.toNatClampNeg .null } : Cell) = yFil U cA cI n.toNatClampNeg b.toNatClampNeg 0 := by
    show _ = U.pushCell (arrV cA n.toNatClampNeg (yRo U.heap.size 0))
    rw [yRo_0, ← arrV_new]
  refine wp_forIn_inv (fun rest V => ∃ i, i ≤ n.toNatClampNeg ∧ rest = List.range' i (n.toNatClampNeg - i) ∧ V = yFil U cA cI n.toNatClampNeg b.toNatClampNeg i) _ _ ⟨0, Nat.zero_le _, rfl, hstart⟩ ?_ ?_
  · rintro x rest V d' acts' Q' ⟨i, hi, hl, rfl⟩ hnext
    have hlt : i < n.toNatClampNeg := Nat.lt_of_not_le fun hge => by
      rw [show n.toNatClampNeg - i = 0 by omega] at hl
      cases hl
    rw [show n.toNatClampNeg - i = (n.toNatClampNeg - (i + 1)) + 1 by omega, List.range'_succ] at hl
    obtain ⟨rfl, hrest⟩ := List.cons.inj hl
    obtain ⟨h1, h2, h3, h4, -, -⟩ := yFil_ok U cA cI n.toNatClampNeg b.toNatClampNeg x
    have hmul : x * b.toNatClampNeg + b.toNatClampNeg ≤ n.toNatClampNeg * b.toNatClampNeg := by
      have := Nat.mul_le_mul_right b.toNatClampNeg (show x + 1 ≤ n.toNatClampNeg from hlt)
      rw [Nat.succ_mul] at this
      exact this
    simp only [wp_bind']
    rw [multianewarray.make]
    simp only [wp_bind', W.ite, hb, if_false, wp_pure', W.theClass, h3, hkI, hI, Option.some.injEq, exists_eq_left']
    refine W.newArray_of (by rw [h3]; exact hkI) hI l3 l4 (by rw [h1]; omega) (by rw [h4]; omega) rfl (fun acts2 => ?_)
    have hnew : (yFil U cA cI n.toNatClampNeg b.toNatClampNeg x).pushCell ({ cls := cI, slots := Array.replicate b.toNatClampNeg (defaultValue .int) } : Cell) = (yFil U cA cI n.toNatClampNeg b.toNatClampNeg x).pushCell (arrV cI b.toNatClampNeg (fun _ => .int 0)) := by rw [← arrV_new]; rfl
    rw [hnew]
    simp only [wp_bind', W.writeLoc, wp_pure']
    refine ⟨arrV cA n.toNatClampNeg (yRo U.heap.size x), (State.heap_pushCell_of_lt _ _ (show U.heap.size < (yFil U cA cI n.toNatClampNeg b.toNatClampNeg x).heap.size by rw [h1]; omega)).trans h2, (fun h => by cases h), by rw [arrV_size]; exact hlt, ?_, hnext _ _ _ ⟨x + 1, hlt, hrest, ?_⟩⟩
    · show State.fitsSlot _ cA .none x _ = true
      simp [State.fitsSlot, State.slotType?, h3, hkA, hA, fits]
    · rw [arrV_store, h1, yRo_succ]
      rfl
  · rintro V d' acts' ⟨i, hi, hl, rfl⟩
    have hiN : i = n.toNatClampNeg := by
      apply Nat.le_antisymm hi
      apply Nat.le_of_not_lt
      intro hlt
      rw [show n.toNatClampNeg - i = (n.toNatClampNeg - (i + 1)) + 1 by omega, List.range'_succ] at hl
      cases hl
    subst hiN
    simp only [wp_pure']
    exact hq _ _
theorem yMul_row : yMulW := by
  intro p l e R s m args below meth c Z H locs cs sl pc idx cc own la rest n b hx hbc hown w1 w2 w3 hdg n1 k1 n2 k2 hc hsl kk
  intro T hT X
  subst hT
  have hpl : e.platform.magicAccessors = ({} : Platform).magicAccessors := by rw [X.admits.platform]
  obtain ⟨cI, cA, kA, nmI, hkA, hA, nmA⟩ := yG_over w2
  obtain ⟨cI', kI, cx, nmI', hkI, hI⟩ := Cond.arrayClass_spec w3
  have eI : cI' = cI := Option.some.inj (nmI'.symm.trans nmI)
  subst eI
  obtain ⟨c0, hfc0, hcl⟩ := Cond.classLink_spec hown w1 e.platform hpl
  cases nmA.symm.trans hfc0
  obtain ⟨hg₁, hwarm₁, hready₁⟩ := State.classEntry (e := e) X.warmed hcl
  generalize T.vm.noted m.cls idx (.cls cA) = vm₁ at hg₁ hwarm₁ hready₁
  have hal : s.vm.Alike vm₁ := hwarm₁.alike
  obtain ⟨kA₁, hkA₁, heA⟩ := hal.2.2 _ _ hkA
  obtain ⟨kI₁, hkI₁, heI⟩ := hal.2.2 _ _ hkI
  have hA₁ : kA₁.kind = .array cI' (.array .int) := by rw [heA]; exact hA
  have hI₁ : kI₁.kind = .array cx .int := by rw [heI]; exact hI
  have X₁ := X.noted hwarm₁
  obtain ⟨r1, r2⟩ := X.roomAbove hc hsl
  have XF := yFil_stand X₁ cA cI' n.toNatClampNeg b.toNatClampNeg n.toNatClampNeg
  obtain ⟨f1, f2, f3, f4, f5, f6⟩ := yFil_ok (T.setVm vm₁) cA cI' n.toNatClampNeg b.toNatClampNeg n.toNatClampNeg
  have hrow : arrV cA n.toNatClampNeg (yRo T.heap.size n.toNatClampNeg) = arrV cA n.toNatClampNeg (fun j => .ref (T.heap.size + 1 + j)) := yArrV_congr (fun j hj => if_pos hj)
  obtain ⟨t, a1, b1⟩ := kk (yFil (T.setVm vm₁) cA cI' n.toNatClampNeg b.toNatClampNeg n.toNatClampNeg).heap cA cI' nmA nmI (by rw [f1]; show T.heap.size + 1 + _ = _; omega) f5 (f2.trans (congrArg some hrow)) f6 _ rfl (stand_widen XF (by omega) (by omega))
  refine ⟨t, ?_, b1⟩
  have l1 : ¬ n.toNatClampNeg > e.platform.arrayLengthLimit := by rw [Launch.admits_arrayLengthLimit X.admits]; omega
  have l2 : ¬ n.toNatClampNeg * componentBytes (.array .int) > e.platform.maxHeapBytes := by rw [Launch.admits_maxHeapBytes X.admits]; show ¬ n.toNatClampNeg * 4 > 536870912; omega
  have l3 : ¬ b.toNatClampNeg > e.platform.arrayLengthLimit := by rw [Launch.admits_arrayLengthLimit X.admits]; omega
  have l4 : ¬ b.toNatClampNeg * componentBytes .int > e.platform.maxHeapBytes := by rw [Launch.admits_maxHeapBytes X.admits]; show ¬ b.toNatClampNeg * 4 > 536870912; omega
  have hdg' : decode c.code pc = .ok (.multianewarray idx 2, 4) := by rw [hbc]; exact hdg
  jvm_step X.here [hx, hdg']
  simp only [multianewarray.sem, wp_bind', W.resolveClassAt_links (State.method?_setTop (F0 m pc la (.int b :: .int n :: rest)) X.here.top) hg₁]
  rw [W.popN, if_neg (by decide)]
  refine ⟨F0 m pc la (.int b :: .int n :: rest), State.topJava?_setTop' (s := T.setVm vm₁) _ X.here.top, [.int n, .int b], rest, rfl, rfl, ?_⟩
  simp only [List.mapM_cons, List.mapM_nil, wp_bind', wp_pure']
  refine yMake (kA := kA₁) (kI := kI₁) (cI := cI') (cc := cx) hkA₁ hA₁ hkI₁ hI₁ n1 k1 l1 l2 l3 l4 (by show T.heap.size + 1 + _ ≤ _; omega) (by show T.slotsUsed + _ + _ ≤ _; omega) (fun d' acts' => ?_)
  have eS : ((T.setTop (F0 m pc la (.int b :: .int n :: rest))).setVm vm₁).setTop { (F0 m pc la (.int b :: .int n :: rest)) with stack := rest } = (T.setVm vm₁).setTop { (F0 m pc la (.int b :: .int n :: rest)) with stack := rest } := by
    show ((T.setVm vm₁).setTop _).setTop _ = _
    rw [State.setTop_setTop]
  rw [eS, yFil_top]
  simp only [wp_bind', W.mark, W.pushRef, State.topJava?_setTop' _ XF.here.top, Option.some.injEq, exists_eq_left', State.setTop_setTop, State.heap_setTop]
  intro acts
  simp [jvm, XF.here.top]
  exact a1
theorem yMul_ok : yMulP := yMul_of yMul_row
