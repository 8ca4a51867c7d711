/-! ===== an array of arrays: the row of the machine, by what is seen of the memory ===== -/
/-- an instruction of whose end one knows only how it looks -/
theorem yIns {p : Program} {e : Env} {below : List Frame} {T : State} {f : JFrame} {c : Code} {i : Instr} {len : Nat} {Z : State → Prop} (hx : p.tables.exec = Jvm.exec) (h : At T f.method c below) (hd : decode c.code f.pc = .ok (i, len))
    (hw : wpRun (Jvm.exec i) (fun _ V _ => ∃ (V0 : State) (g : JFrame), V = V0.setTop g ∧ ∃ t, Steps p.tables e below (V0.setTop { g with pc := g.pc + len }) t ∧ Z t) (fun _ _ _ => False) e (T.setTop f)) : ∃ t, Steps p.tables e below (T.setTop f) t ∧ Z t := by
  have hr := (wpRun_iff_run _ _ _ _ _).mp hw
  cases hn : (Jvm.exec i).run e (T.setTop f) with
  | ok a V acts =>
    rw [hn] at hr
    obtain ⟨V0, g, hV, t, ht, hz⟩ := hr
    refine ⟨t, Steps.instr h ?_, hz⟩
    rw [hd]
    show wpRun (p.tables.exec i) _ _ e (T.setTop f)
    rw [hx]
    refine (wpRun_iff_run _ _ _ _ _).mpr ?_
    rw [hn]
    intro acts'
    rw [hV, afterInstr_ok]
    exact ht
  | ctl x V acts =>
    rw [hn] at hr
    cases x <;> exact hr.elim
/-- a loop that counts: what holds of the round's number and of the state -/
theorem yCount {E : CtlPost} {e : Env} {N : Nat} {I : Nat → State → Prop} {f : Nat → PUnit → Sem (ForInStep PUnit)} (hs : ∀ (i : Nat) (V : State) (d : Bool) (acts : List Action) (Q : ForInStep PUnit → Pre), i < N → I i V → (∀ V' d' acts', I (i + 1) V' → Q (.yield .unit) d' acts' V') → wp (f i .unit) Q E e d acts V) : ∀ (k i : Nat) (V : State) (d : Bool) (acts : List Action) (Q : PUnit → Pre), i + k = N → I i V → (∀ V' d' acts', I N V' → Q .unit d' acts' V') → wp (forIn (List.range' i k) PUnit.unit f) Q E e d acts V
  | 0, i, V, d, acts, Q, hk, hI, hq => by
    have hi : i = N := hk
    subst hi
    exact hq V d acts hI
  | k + 1, i, V, d, acts, Q, hk, hI, hq => by
    rw [List.range'_succ, List.forIn_cons, wp_bind']
    exact hs i V d acts _ (by omega) hI (fun V' d' acts' h => yCount hs k (i + 1) V' d' acts' Q (by omega) h hq)
/-- what is seen of a memory in which the outer array lies behind H0, and behind it i of its rows -/
def ySeen (H0 : Heap) (cA cI : ClassId) (N K i : Nat) (H : Heap) : Prop :=
  H.size = H0.size + (1 + i) ∧ (∀ q : Nat, q < H0.size → H[q]? = H0[q]?) ∧ (∀ j : Nat, j < i → H[H0.size + 1 + j]? = some (arrV cI K (fun _ => .int 0))) ∧ H[H0.size]? = some (arrV cA N (fun j => if j < i then .ref (H0.size + 1 + j) else .null))
theorem ySeen_first (H0 : Heap) (cA cI : ClassId) (N K : Nat) : ySeen H0 cA cI N K 0 (H0.push (arrV cA N (fun _ => .null))) := by
  refine ⟨Array.size_push .., fun q hq => ?_, fun j hj => absurd hj (Nat.not_lt_zero j), ?_⟩
  · rw [Array.getElem?_push, if_neg (Nat.ne_of_lt hq)]
  · rw [Array.getElem?_push, if_pos rfl]
    rfl
theorem ySeen_next {H0 H : Heap} {cA cI : ClassId} {N K i : Nat} (h : ySeen H0 cA cI N K i H) : ySeen H0 cA cI N K (i + 1) ((H.push (arrV cI K (fun _ => .int 0))).setIfInBounds H0.size (arrV cA N (updV (fun j => if j < i then .ref (H0.size + 1 + j) else .null) i (.ref H.size)))) := by
  obtain ⟨hz, ho, hr, -⟩ := h
  have at_ne : ∀ q : Nat, q ≠ H0.size → ((H.push (arrV cI K (fun _ => .int 0))).setIfInBounds H0.size (arrV cA N (updV (fun j => if j < i then .ref (H0.size + 1 + j) else .null) i (.ref H.size))))[q]? = if q = H.size then some (arrV cI K (fun _ => .int 0)) else H[q]? := fun q hq => by
    rw [Array.getElem?_setIfInBounds_ne (Ne.symm hq), Array.getElem?_push]
  refine ⟨?_, fun q hq => ?_, fun j hj => ?_, ?_⟩
  · rw [Array.size_setIfInBounds, Array.size_push, hz]
    omega
  · rw [at_ne q (by omega), if_neg (by omega)]
    exact ho q hq
  · rw [at_ne _ (by omega)]
    by_cases hl : j = i
    · rw [if_pos (by omega)]
    · rw [if_neg (by omega)]
      exact hr j (by omega)
  · rw [Array.getElem?_setIfInBounds_self_of_lt (by rw [Array.size_push]; omega)]
    congr 2
    funext j
    show (if j = i then Value.ref H.size else if j < i then .ref (H0.size + 1 + j) else .null) = _
    by_cases h1 : j = i
    · rw [if_pos h1, if_pos (by omega)]
      exact congrArg Value.ref (show H.size = H0.size + 1 + j by omega)
    · rw [if_neg h1]
      by_cases h2 : j < i
      · rw [if_pos h2, if_pos (by omega)]
      · rw [if_neg h2, if_neg (by omega)]
section
variable {p : Program} {l : Launch} {e : Env} {R : Room} {s : State} {m : MethodId} {args : Array Value} {below : List Frame} {meth : Method} {c : Code} {locs : List Loc} {E : CtlPost} {d : Bool} {acts : List Action} {f : JFrame}
/-- a new array, wherever the walk stands -/
theorem yNew {T : State} {cs sl : Nat} (X : Stand p l e R s m args below meth c T locs cs sl) {a comp : ClassId} {k : Class} {ty : FieldType} {n : Nat} {v : Value} (hk : T.vm.classes[a]? = some k) (hkind : k.kind = .array comp ty) (hn : n ≤ 2000) (hw : componentBytes ty = 4) (hv : fits ty v = true) (hc : cs + 1 ≤ R.cells) (hs : sl + n ≤ R.slots) {Q : Addr → Pre}
    (hq : ∀ acts', Q T.heap.size d acts' ((T.pushCell (arrV a n (fun _ => v))).setTop f)) : wp (Jvm.newArray a n v) Q E e d acts (T.setTop f) := by
  obtain ⟨r1, r2⟩ := X.roomAbove hc hs
  refine W.newArray_of (s := T.setTop f) hk hkind ?_ ?_ r1 r2 hv (fun acts' => ?_)
  · rw [Launch.admits_arrayLengthLimit X.admits]
    omega
  · rw [Launch.admits_maxHeapBytes X.admits, hw]
    omega
  · have h := hq acts'
    rw [← arrV_new] at h
    exact h
/-- in the middle of the work: i rows are laid -/
def yMid (p : Program) (l : Launch) (e : Env) (R : Room) (s : State) (m : MethodId) (args : Array Value) (below : List Frame) (meth : Method) (c : Code) (locs : List Loc) (f : JFrame) (vm : Vm) (H0 : Heap) (cA cI : ClassId) (N K cs sl i : Nat) (V : State) : Prop :=
  ∃ T, V = T.setTop f ∧ Stand p l e R s m args below meth c T locs (cs + (1 + i)) (sl + (N + i * K)) ∧ T.vm = vm ∧ ySeen H0 cA cI N K i T.heap
/-- one row more -/
theorem yRow {vm : Vm} {H0 : Heap} {cA cI cx : ClassId} {kA kI : Class} {N cs sl i : Nat} {b : Int32} {V : State} (M : yMid p l e R s m args below meth c locs f vm H0 cA cI N b.toNatClampNeg cs sl i V) (hi : i < N) (hnew : s.heap.size ≤ H0.size) (hA : vm.classes[cA]? = some kA) (hA2 : kA.kind = .array cI (.array .int)) (hI : vm.classes[cI]? = some kI) (hI2 : kI.kind = .array cx .int) (b1 : ¬ b < 0) (b2 : b.toNatClampNeg ≤ 2000) (hc : cs + (1 + N) ≤ R.cells) (hs : sl + (N + N * b.toNatClampNeg) ≤ R.slots) {Q : Unit → Pre}
    (hq : ∀ V' d' acts', yMid p l e R s m args below meth c locs f vm H0 cA cI N b.toNatClampNeg cs sl (i + 1) V' → Q () d' acts' V') : wp (multianewarray.make cI [b]) (fun a => wp (Jvm.writeLoc H0.size i (.ref a)) Q E e) E e d acts V := by
  obtain ⟨T, rfl, X, rfl, S⟩ := M
  have hK : i * b.toNatClampNeg + b.toNatClampNeg ≤ N * b.toNatClampNeg := by
    rw [← Nat.succ_mul]
    exact Nat.mul_le_mul_right _ hi
  have hK2 : (i + 1) * b.toNatClampNeg = i * b.toNatClampNeg + b.toNatClampNeg := Nat.succ_mul ..
  have hlt : H0.size < T.heap.size := by rw [S.1]; omega
  have hcell : (T.pushCell (arrV cI b.toNatClampNeg (fun _ => .int 0))).heap[H0.size]? = some (arrV cA N (fun j => if j < i then .ref (H0.size + 1 + j) else .null)) := by
    rw [State.heap_pushCell_of_lt _ _ hlt]
    exact S.2.2.2
  unfold multianewarray.make
  simp only [wp_bind', W.ite, b1, if_false, wp_pure', W.theClass, State.vm_setTop, hI, hI2, Option.some.injEq, exists_eq_left']
  refine yNew X hI hI2 b2 rfl rfl (by omega) (by omega) (fun acts' => ?_)
  rw [W.writeLoc]
  refine ⟨_, hcell, (fun h => by cases h), (by rw [arrV_size]; exact hi), ?_, hq _ _ _ ⟨(T.pushCell (arrV cI b.toNatClampNeg (fun _ => .int 0))).setCell H0.size ((arrV cA N (fun j => if j < i then .ref (H0.size + 1 + j) else .null)).setSlot i (.ref T.heap.size)), rfl, ?_, rfl, ?_⟩⟩
  · simp [State.fitsSlot, State.slotType?, arrV, hA, hA2, fits]
  · have Y := ((X.pushed (arrV cI b.toNatClampNeg (fun _ => .int 0))).stored hcell i (.ref T.heap.size)).dropFresh (fun x hx => by rw [List.mem_singleton.mp hx]; exact hnew)
    rw [arrV_size] at Y
    exact stand_widen Y (by omega) (by omega)
  · have Y := ySeen_next S
    rw [← arrV_store] at Y
    exact Y
/-- both dimensions -/
theorem yBoth {T : State} {cs sl : Nat} (X : Stand p l e R s m args below meth c T locs cs sl) {cA cI cx : ClassId} {kA kI : Class} {n b : Int32} (hA : T.vm.classes[cA]? = some kA) (hA2 : kA.kind = .array cI (.array .int)) (hI : T.vm.classes[cI]? = some kI) (hI2 : kI.kind = .array cx .int) (n1 : ¬ n < 0) (b1 : ¬ b < 0) (n2 : n.toNatClampNeg ≤ 2000) (b2 : b.toNatClampNeg ≤ 2000) (hc : cs + (1 + n.toNatClampNeg) ≤ R.cells) (hs : sl + (n.toNatClampNeg + n.toNatClampNeg * b.toNatClampNeg) ≤ R.slots) {Q : Addr → Pre}
    (hq : ∀ V d' acts', yMid p l e R s m args below meth c locs f T.vm T.heap cA cI n.toNatClampNeg b.toNatClampNeg cs sl n.toNatClampNeg V → Q T.heap.size d' acts' V) : wp (multianewarray.make cA [n, b]) Q E e d acts (T.setTop f) := by
  have none_bad : [b].find? (· < 0) = none := List.find?_eq_none.mpr (by simpa using b1)
  unfold multianewarray.make
  simp only [wp_bind', W.ite, n1, if_false, wp_pure', W.theClass, State.vm_setTop, hA, hA2, Option.some.injEq, exists_eq_left']
  refine yNew X hA hA2 n2 rfl rfl (by omega) (by omega) (fun acts' => ?_)
  simp only [none_bad, ite_self, wp_bind', wp_pure']
  rw [Std.Legacy.Range.forIn_eq_forIn_range']
  refine yCount (N := n.toNatClampNeg) (I := fun i V => yMid p l e R s m args below meth c locs f T.vm T.heap cA cI n.toNatClampNeg b.toNatClampNeg cs sl i V) (fun i V d' acts' Q' hi M hn => ?_) _ _ _ _ _ _ ?_ ?_ (fun V d' acts' M => ?_)
  · simp only [wp_bind', wp_pure']
    exact yRow (Q := fun _ => Q' (.yield .unit)) M hi X.heapGrown hA hA2 hI hI2 b1 b2 hc hs hn
  · simp [Std.Legacy.Range.size]
  · refine ⟨_, rfl, ?_, rfl, ySeen_first _ _ _ _ _⟩
    have Y := X.pushed (arrV cA n.toNatClampNeg (fun _ => .null))
    rw [arrV_size] at Y
    exact stand_widen Y (by omega) (by omega)
  · exact hq V d' acts' M
end
theorem yMul_row : yMulW := by
  intro p l e R s m args below meth c Z H locs cs sl pc idx cc own la rest n b hx hbc hown w1 w2 w3 hdg n1 b1 n2 b2 hc hs kk T hT X
  subst hT
  subst hbc
  obtain ⟨cI, cA, kA, nI, -, hA, hA2, nA⟩ := arrayOverA_spec w2
  obtain ⟨cJ, kI, cx, nJ, hI, hI2⟩ := Cond.arrayClass_spec w3
  obtain rfl : cI = cJ := Option.some.inj (nI.symm.trans nJ)
  obtain ⟨cB, nB, hlink⟩ := Cond.classLink_spec hown w1 e.platform (by rw [X.admits.platform])
  obtain rfl : cA = cB := Option.some.inj (nA.symm.trans nB)
  obtain ⟨gives, warm, -⟩ := State.classEntry (e := e) X.warmed hlink
  obtain ⟨kA', hA', eA⟩ := warm.alike.2.2 _ _ hA
  obtain ⟨kI', hI', eI⟩ := warm.alike.2.2 _ _ hI
  refine yIns (i := .multianewarray idx 2) (len := 4) hx X.here hdg ?_
  show wp (multianewarray.sem idx 2) _ _ e false [] _
  unfold multianewarray.sem
  rw [wp_bind', W.resolveClassAt_links (State.method?_setTop _ X.here.top) gives, wp_bind']
  refine (popN_top (s := T.setVm (T.vm.noted m.cls idx (.cls cA))) (f := F0 m pc la (.int b :: .int n :: rest)) (args := [.int n, .int b]) (rest := rest) X.here.top rfl).mpr ?_
  simp only [List.mapM_cons, List.mapM_nil, wp_bind', wp_pure']
  refine yBoth (X.noted warm) hA' (by rw [eA]; exact hA2) hI' (by rw [eI]; exact hI2) n1 b1 n2 b2 hc hs (fun V d acts M => ?_)
  obtain ⟨U, rfl, XU, -, hz, ho, hr, ht⟩ := M
  rw [wp_bind', W.mark, W.pushRef]
  refine ⟨_, State.topJava?_setTop' _ XU.here.top, U, _, State.setTop_setTop .., ?_⟩
  refine kk U.heap cA cI nA nI hz ho (ht.trans (congrArg some (yArrV_congr (fun j hj => if_pos hj)))) hr U rfl XU
theorem yMul_ok : yMulP := yMul_of yMul_row
