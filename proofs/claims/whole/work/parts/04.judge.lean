/-! ===== the judgement over frames ===== -/
def oGT : List Cond := lw_tbl.filter goodWord
theorem oGT_of {w : Cond} (h : w ∈ tables_1) (hg : goodWord w = true) : w ∈ oGT := List.mem_filter.mpr ⟨List.mem_append_right _ h, hg⟩
theorem oGT_tbl {w : Cond} (h : w ∈ oGT) : w ∈ lw_tbl := (List.mem_filter.mp h).1
theorem oGT_good {w : Cond} (h : w ∈ oGT) : goodWord w = true := (List.mem_filter.mp h).2
def oFnd : List (Nat × Instr × Nat × Nat) → Nat → Option (Instr × Nat × Nat)
  | [], _ => none
  | q :: r, pc => cond (Nat.beq q.1 pc) (some q.2) (oFnd r pc)
def oFt (k pc : Nat) : Option (Instr × Nat × Nat) := oFnd (oCT k) pc
def oBrO : Instr → Option Int
  | .goto o => some o
  | .ifCond _ o => some o
  | .if_icmp _ o => some o
  | _ => none
/-- the length of an instruction; 0 where it isn't one number -/
def oLen : Instr → Nat
  | .tableswitch .. => 0
  | .lookupswitch .. => 0
  | .bipush _ | .ldc _ | .iload _ | .aload _ | .istore _ | .astore _ | .newarray _ => 2
  | .sipush _ | .ldc_w _ | .iinc _ _ | .goto _ | .ifCond _ _ | .if_icmp _ _ | .getfield _ | .putfield _ | .getstatic _ | .invokevirtual _ | .invokestatic _ | .invokespecial _ | .new _ | .anewarray _ => 3
  | .multianewarray .. => 4
  | _ => 1
def oRowOk (c : ByteArray) (q : Nat × Instr × Nat × Nat) : Prop := decode c q.1 = .ok (q.2.1, q.2.2.1 - q.1) ∧ (oLen q.2.1 = 0 ∨ q.2.2.1 = q.1 + oLen q.2.1) ∧ (oBrO q.2.1).all (fun o => decide ((q.1 : Int) + o = (q.2.2.2 : Int))) = true
def oDec (k : Nat) : Prop := ∀ q ∈ oCT k, oRowOk (oMC k) q
theorem oFnd_mem : ∀ (l : List (Nat × Instr × Nat × Nat)) (pc : Nat) (r : Instr × Nat × Nat), oFnd l pc = some r → (pc, r) ∈ l
  | [], _, _, h => by cases h
  | q :: l, pc, r, h => by
    unfold oFnd at h
    cases hb : Nat.beq q.1 pc with
    | true =>
      rw [hb] at h
      have e : q.1 = pc := Nat.eq_of_beq_eq_true hb
      have h2 : q.2 = r := by simpa using h
      rw [← e, ← h2]
      exact List.mem_cons_self
    | false =>
      rw [hb] at h
      exact List.mem_cons_of_mem _ (oFnd_mem l pc r (by simpa using h))
theorem oFt_row {k pc : Nat} {r : Instr × Nat × Nat} (hD : oDec k) (h : oFt k pc = some r) : oRowOk (oMC k) (pc, r) := hD _ (oFnd_mem _ _ _ h)
theorem oFt_dec {k pc : Nat} {I : Instr} {nx tg n : Nat} (h : oFt k pc = some (I, nx, tg)) (hn : oLen I = n + 1) (hD : oDec k) : decode (oMC k) pc = .ok (I, n + 1) ∧ nx = pc + (n + 1) := by
  obtain ⟨h1, h2, -⟩ := oFt_row hD h
  dsimp only at h1 h2
  rcases h2 with h2 | h2
  · omega
  · rw [hn] at h2
    rw [h2] at h1
    rw [show pc + (n + 1) - pc = n + 1 by omega] at h1
    exact ⟨h1, h2⟩
theorem oFt_br {k pc : Nat} {I : Instr} {nx tg : Nat} {o : Int} (h : oFt k pc = some (I, nx, tg)) (ho : oBrO I = some o) (hD : oDec k) : (pc : Int) + o = (tg : Int) := by
  obtain ⟨-, -, h3⟩ := oFt_row hD h
  dsimp only at h3
  rw [ho] at h3
  simpa using h3
def oCX (k : Nat) (A : Nat → Prop) (p : Program) (s : State) (m : MethodId) (args : Array Value) (meth : Method) (c : Code) (E : oE) : Prop :=
  p.tables.exec = Jvm.exec ∧ c.code = oMC k ∧ c.maxLocals = oML k ∧ meth.sig.returnType = oMR k ∧ meth.locks = false ∧ s.vm.findClass (oCN (oMO k)) = some m.cls ∧ (∀ w ∈ oGT, w.before args s = true) ∧ va_K E.1 vwCl (otys E) s ∧ oRO E A s s.heap ∧ (∀ w ∈ oNW, va_Nw w s) ∧ oInj E ∧ (∀ q, oA E q → A q) ∧ oDec k
/-- what a return instruction at pc may give back -/
def oRetOk (k pc : Nat) (r : Option Int32) : Prop := match r with
  | none => decode (oMC k) pc = .ok (.return_, 1) ∧ oMR k = none
  | some v => decode (oMC k) pc = .ok (.ireturn, 1) ∧ ∃ ty, oMR k = some ty ∧ narrow ty (.int v) = .int v
def oEnd (k : Nat) (A : Nat → Prop) (p : Program) (l : Launch) (e : Env) (R : Room) (s : State) (m : MethodId) (args : Array Value) (below : List Frame) (meth : Method) (c : Code) (E : oE) (Q : Option Int32 → oM → Prop) (cs sl : Nat) (Z : State → Prop) : Prop :=
  ∀ (r : Option Int32) (M : oM) (H : Heap) (locs : List Loc) (pc : Nat) (la : Array Slot), Q r M → oRep E M H → va_S A s.heap H locs → oRetOk k pc r → W p l e R s m args below meth c H locs cs sl Z (F0 m pc la (r.toList.map Value.int))
def oG (k d pc : Nat) (ls : List (Option oV)) (st : List oV) (M : oM) (Q : Option Int32 → oM → Prop) : Prop :=
  ∀ (A : Nat → Prop) (p : Program) (l : Launch) (e : Env) (R : Room) (s : State) (m : MethodId) (args : Array Value) (below : List Frame) (meth : Method) (c : Code) (E : oE) (H : Heap) (locs : List Loc) (la : Array Slot) (cs sl : Nat) (Z : State → Prop),
    oCX k A p s m args meth c E → oEnd k A p l e R s m args below meth c E Q cs sl Z → (d ≤ R.frames ∧ 40 * d ≤ R.locals ∧ cs ≤ R.cells ∧ sl ≤ R.slots) → va_S A s.heap H locs → oRep E M H → lv_has la (oML k) (oEn E 0 ls) → (∀ v ∈ st, oOk v) → (∀ v, some v ∈ ls → oOk v) → ls.length = oML k →
    W p l e R s m args below meth c H locs cs sl Z (F0 m pc la (st.map (ocv E)))
theorem oG.weaken {k d pc : Nat} {ls : List (Option oV)} {st : List oV} {M : oM} {Q Q' : Option Int32 → oM → Prop} (hQ : ∀ r M, Q' r M → Q r M) (h : oG k d pc ls st M Q') : oG k d pc ls st M Q := by
  intro A p l e R s m args below meth c E H locs la cs sl Z C hE hR hS hP hl h1 h2 h3
  exact h A p l e R s m args below meth c E H locs la cs sl Z C (fun r M H locs pc la hq => hE r M H locs pc la (hQ r M hq)) hR hS hP hl h1 h2 h3
/-- an instruction that works on the stack alone -/
theorem oG.lift {k d pc pc' : Nat} {ls : List (Option oV)} {st st' : List oV} {M : oM} {Q : Option Int32 → oM → Prop}
    (h : ∀ {p : Program} {l : Launch} {e : Env} {R : Room} {s : State} {m : MethodId} {args : Array Value} {below : List Frame} {meth : Method} {c : Code} {E : oE} {H : Heap} {locs : List Loc} {la : Array Slot} {cs sl : Nat} {Z : State → Prop}, p.tables.exec = Jvm.exec → c.code = oMC k → (∀ v : oV, (ocv E v).category = 1) → oDec k → W p l e R s m args below meth c H locs cs sl Z (F0 m pc' la (st'.map (ocv E))) → W p l e R s m args below meth c H locs cs sl Z (F0 m pc la (st.map (ocv E))))
    (hok : (∀ v ∈ st, oOk v) → ∀ v ∈ st', oOk v) (kk : oG k d pc' ls st' M Q) : oG k d pc ls st M Q := by
  intro A p l e R s m args below meth c E H locs la cs sl Z C hE hR hS hP hl h1 h2 h3
  have hov := C.2.2.2.2.2.2.2.2.1.2.2.2.2.2.2.2.1
  exact h C.1 C.2.1 (ocv_cat E hov) C.2.2.2.2.2.2.2.2.2.2.2.2 (kk A p l e R s m args below meth c E H locs la cs sl Z C hE hR hS hP hl (hok h1) h2 h3)
section RULES
variable {k d pc nx tg : Nat} {ls : List (Option oV)} {st : List oV} {M : oM} {Q : Option Int32 → oM → Prop}
theorem oOk_tl {v : oV} (h : ∀ w ∈ v :: st, oOk w) : ∀ w ∈ st, oOk w := fun w hw => h w (List.mem_cons_of_mem _ hw)
theorem oOk_int {x : Int32} (h : ∀ w ∈ st, oOk w) : ∀ w ∈ (.inl x :: st : List oV), oOk w := fun w hw => by
  rcases List.mem_cons.mp hw with rfl | hw
  · trivial
  · exact h w hw
theorem oOk_cons {v : oV} (hv : oOk v) (h : ∀ w ∈ st, oOk w) : ∀ w ∈ v :: st, oOk w := fun w hw => by
  rcases List.mem_cons.mp hw with rfl | hw
  · exact hv
  · exact h w hw
theorem g_bin {I : Instr} {f : Int32 → Int32 → Int32} (hI : oLen I = 1)
    (hr : ∀ {p : Program} {l : Launch} {e : Env} {R : Room} {s : State} {m : MethodId} {args : Array Value} {below : List Frame} {meth : Method} {c : Code} {H : Heap} {locs : List Loc} {la : Array Slot} {cs sl : Nat} {Z : State → Prop} {rest : List Value} {x y : Int32}, p.tables.exec = Jvm.exec → c.code = oMC k → decode (oMC k) pc = .ok (I, 1) → W p l e R s m args below meth c H locs cs sl Z (F0 m (pc + 1) la (.int (f x y) :: rest)) → W p l e R s m args below meth c H locs cs sl Z (F0 m pc la (.int y :: .int x :: rest)))
    {x y : Int32} (hf : oFt k pc = some (I, nx, tg)) (kk : oG k d nx ls (.inl (f x y) :: st) M Q) : oG k d pc ls (.inl y :: .inl x :: st) M Q := by
  refine oG.lift (fun hx hb _ hD w => ?_) (fun h => oOk_int (oOk_tl (oOk_tl h))) kk
  obtain ⟨h1, rfl⟩ := oFt_dec (n := 0) hf hI hD
  exact hr hx hb h1 w
theorem g_iadd {x y : Int32} (hf : oFt k pc = some (.iadd, nx, tg)) (kk : oG k d nx ls (.inl (x + y) :: st) M Q) : oG k d pc ls (.inl y :: .inl x :: st) M Q := g_bin rfl (fun hx hb hd w => lv_iadd hx hb hd w) hf kk
theorem g_isub {x y : Int32} (hf : oFt k pc = some (.isub, nx, tg)) (kk : oG k d nx ls (.inl (x - y) :: st) M Q) : oG k d pc ls (.inl y :: .inl x :: st) M Q := g_bin rfl (fun hx hb hd w => lv_isub hx hb hd w) hf kk
theorem g_imul {x y : Int32} (hf : oFt k pc = some (.imul, nx, tg)) (kk : oG k d nx ls (.inl (x * y) :: st) M Q) : oG k d pc ls (.inl y :: .inl x :: st) M Q := g_bin rfl (fun hx hb hd w => lv_imul hx hb hd w) hf kk
theorem g_iand {x y : Int32} (hf : oFt k pc = some (.iand, nx, tg)) (kk : oG k d nx ls (.inl (x &&& y) :: st) M Q) : oG k d pc ls (.inl y :: .inl x :: st) M Q := g_bin rfl (fun hx hb hd w => lv_iand hx hb hd w) hf kk
theorem g_ior {x y : Int32} (hf : oFt k pc = some (.ior, nx, tg)) (kk : oG k d nx ls (.inl (x ||| y) :: st) M Q) : oG k d pc ls (.inl y :: .inl x :: st) M Q := g_bin rfl (fun hx hb hd w => lv_ior hx hb hd w) hf kk
theorem g_ixor {x y : Int32} (hf : oFt k pc = some (.ixor, nx, tg)) (kk : oG k d nx ls (.inl (x ^^^ y) :: st) M Q) : oG k d pc ls (.inl y :: .inl x :: st) M Q := g_bin rfl (fun hx hb hd w => lv_ixor hx hb hd w) hf kk
theorem g_ishl {x y : Int32} (hf : oFt k pc = some (.ishl, nx, tg)) (kk : oG k d nx ls (.inl (x <<< (y &&& 31)) :: st) M Q) : oG k d pc ls (.inl y :: .inl x :: st) M Q := g_bin rfl (fun hx hb hd w => lv_ishl hx hb hd w) hf kk
theorem g_ishr {x y : Int32} (hf : oFt k pc = some (.ishr, nx, tg)) (kk : oG k d nx ls (.inl (x >>> (y &&& 31)) :: st) M Q) : oG k d pc ls (.inl y :: .inl x :: st) M Q := g_bin rfl (fun hx hb hd w => lv_ishr hx hb hd w) hf kk
def oUshr (x y : Int32) : Int32 := (x.toUInt32 >>> (y.toUInt32 &&& Int32.toUInt32 31)).toInt32
theorem g_iushr {x y : Int32} (hf : oFt k pc = some (.iushr, nx, tg)) (kk : oG k d nx ls (.inl (oUshr x y) :: st) M Q) : oG k d pc ls (.inl y :: .inl x :: st) M Q := g_bin rfl (fun hx hb hd w => lv_iushr hx hb hd rfl w) hf kk
theorem g_idiv {x y : Int32} (hf : oFt k pc = some (.idiv, nx, tg)) (hy : ¬ y = 0) (kk : oG k d nx ls (.inl (x / y) :: st) M Q) : oG k d pc ls (.inl y :: .inl x :: st) M Q := by
  refine oG.lift (fun hx hb _ hD w => ?_) (fun h => oOk_int (oOk_tl (oOk_tl h))) kk
  obtain ⟨h1, rfl⟩ := oFt_dec (n := 0) hf rfl hD
  exact lv_idiv hx hb h1 hy w
def oRem (x y : Int32) : Int32 := x - x / y * y
theorem g_irem {x y : Int32} (hf : oFt k pc = some (.irem, nx, tg)) (hy : ¬ y = 0) (kk : oG k d nx ls (.inl (oRem x y) :: st) M Q) : oG k d pc ls (.inl y :: .inl x :: st) M Q := by
  refine oG.lift (fun hx hb _ hD w => ?_) (fun h => oOk_int (oOk_tl (oOk_tl h))) kk
  obtain ⟨h1, rfl⟩ := oFt_dec (n := 0) hf rfl hD
  exact lv_irem hx hb h1 hy w
theorem g_ineg {x : Int32} (hf : oFt k pc = some (.ineg, nx, tg)) (kk : oG k d nx ls (.inl (-x) :: st) M Q) : oG k d pc ls (.inl x :: st) M Q := by
  refine oG.lift (fun hx hb _ hD w => ?_) (fun h => oOk_int (oOk_tl h)) kk
  obtain ⟨h1, rfl⟩ := oFt_dec (n := 0) hf rfl hD
  exact lv_ineg hx hb h1 w
theorem g_i2s {x : Int32} (hf : oFt k pc = some (.i2s, nx, tg)) (kk : oG k d nx ls (.inl x.toInt16.toInt32 :: st) M Q) : oG k d pc ls (.inl x :: st) M Q := by
  refine oG.lift (fun hx hb _ hD w => ?_) (fun h => oOk_int (oOk_tl h)) kk
  obtain ⟨h1, rfl⟩ := oFt_dec (n := 0) hf rfl hD
  exact lv_i2s hx hb h1 rfl w
theorem g_i2c {x : Int32} (hf : oFt k pc = some (.i2c, nx, tg)) (kk : oG k d nx ls (.inl (x.toUInt32 % 65536).toInt32 :: st) M Q) : oG k d pc ls (.inl x :: st) M Q := by
  refine oG.lift (fun hx hb _ hD w => ?_) (fun h => oOk_int (oOk_tl h)) kk
  obtain ⟨h1, rfl⟩ := oFt_dec (n := 0) hf rfl hD
  exact lv_i2c hx hb h1 rfl w
theorem g_iconst {n : Int} {v : Int32} (hf : oFt k pc = some (.iconst n, nx, tg)) (hv : Int32.ofInt n = v) (kk : oG k d nx ls (.inl v :: st) M Q) : oG k d pc ls st M Q := by
  refine oG.lift (fun hx hb _ hD w => ?_) (fun h => oOk_int h) kk
  obtain ⟨h1, rfl⟩ := oFt_dec (n := 0) hf rfl hD
  exact lv_iconst hx hb h1 hv w
theorem g_bipush {n : Int} {v : Int32} (hf : oFt k pc = some (.bipush n, nx, tg)) (hv : (Int8.ofInt n).toInt32 = v) (kk : oG k d nx ls (.inl v :: st) M Q) : oG k d pc ls st M Q := by
  refine oG.lift (fun hx hb _ hD w => ?_) (fun h => oOk_int h) kk
  obtain ⟨h1, rfl⟩ := oFt_dec (n := 1) hf rfl hD
  exact lv_bipush hx hb h1 hv w
theorem g_sipush {n : Int} {v : Int32} (hf : oFt k pc = some (.sipush n, nx, tg)) (hv : (Int16.ofInt n).toInt32 = v) (kk : oG k d nx ls (.inl v :: st) M Q) : oG k d pc ls st M Q := by
  refine oG.lift (fun hx hb _ hD w => ?_) (fun h => oOk_int h) kk
  obtain ⟨h1, rfl⟩ := oFt_dec (n := 2) hf rfl hD
  exact lv_sipush hx hb h1 hv w
theorem g_dup {v : oV} (hf : oFt k pc = some (.dup, nx, tg)) (kk : oG k d nx ls (v :: v :: st) M Q) : oG k d pc ls (v :: st) M Q := by
  refine oG.lift (fun hx hb hc hD w => ?_) (fun h => oOk_cons (h v List.mem_cons_self) h) kk
  obtain ⟨h1, rfl⟩ := oFt_dec (n := 0) hf rfl hD
  exact lv_dup hx hb h1 (hc v) w
theorem g_dup2 {v u : oV} (hf : oFt k pc = some (.dup2, nx, tg)) (kk : oG k d nx ls (v :: u :: v :: u :: st) M Q) : oG k d pc ls (v :: u :: st) M Q := by
  refine oG.lift (fun hx hb hc hD w => ?_) (fun h => oOk_cons (h v List.mem_cons_self) (oOk_cons (h u (List.mem_cons_of_mem _ List.mem_cons_self)) h)) kk
  obtain ⟨h1, rfl⟩ := oFt_dec (n := 0) hf rfl hD
  exact lv_dup2_11 hx hb h1 (hc v) (hc u) w
theorem g_pop {v : oV} (hf : oFt k pc = some (.pop, nx, tg)) (kk : oG k d nx ls st M Q) : oG k d pc ls (v :: st) M Q := by
  refine oG.lift (fun hx hb hc hD w => ?_) (fun h => oOk_tl h) kk
  obtain ⟨h1, rfl⟩ := oFt_dec (n := 0) hf rfl hD
  exact lv_pop hx hb h1 (hc v) w
theorem g_goto {o : Int} (hf : oFt k pc = some (.goto o, nx, tg)) (kk : oG k d tg ls st M Q) : oG k d pc ls st M Q := by
  refine oG.lift (fun hx hb hc hD w => ?_) (fun h => h) kk
  obtain ⟨h1, -⟩ := oFt_dec (n := 2) hf rfl hD
  exact lv_goto hx hb h1 (oFt_br hf rfl hD) w
theorem g_if_eq {x : Int32} {o : Int} (hf : oFt k pc = some (.ifCond .eq o, nx, tg)) (kt : x = 0 → oG k d tg ls st M Q) (kf : ¬ x = 0 → oG k d nx ls st M Q) : oG k d pc ls (.inl x :: st) M Q := by
  intro A p l e R s m args below meth c E H locs la cs sl Z C hE hR hS hP hl h1 h2 h3
  have hD := C.2.2.2.2.2.2.2.2.2.2.2.2
  obtain ⟨h4, rfl⟩ := oFt_dec (n := 2) hf rfl hD
  exact lv_if_eq C.1 C.2.1 h4 (oFt_br hf rfl hD) (fun q => kt q A p l e R s m args below meth c E H locs la cs sl Z C hE hR hS hP hl (oOk_tl h1) h2 h3) (fun q => kf q A p l e R s m args below meth c E H locs la cs sl Z C hE hR hS hP hl (oOk_tl h1) h2 h3)
theorem g_ic_eq {x y : Int32} {o : Int} (hf : oFt k pc = some (.if_icmp .eq o, nx, tg)) (kt : x = y → oG k d tg ls st M Q) (kf : ¬ x = y → oG k d nx ls st M Q) : oG k d pc ls (.inl y :: .inl x :: st) M Q := by
  intro A p l e R s m args below meth c E H locs la cs sl Z C hE hR hS hP hl h1 h2 h3
  have hD := C.2.2.2.2.2.2.2.2.2.2.2.2
  obtain ⟨h4, rfl⟩ := oFt_dec (n := 2) hf rfl hD
  exact lv_icmp_eq C.1 C.2.1 h4 (oFt_br hf rfl hD) (fun q => kt q A p l e R s m args below meth c E H locs la cs sl Z C hE hR hS hP hl (oOk_tl (oOk_tl h1)) h2 h3) (fun q => kf q A p l e R s m args below meth c E H locs la cs sl Z C hE hR hS hP hl (oOk_tl (oOk_tl h1)) h2 h3)
theorem g_if_ne {x : Int32} {o : Int} (hf : oFt k pc = some (.ifCond .ne o, nx, tg)) (kt : ¬ x = 0 → oG k d tg ls st M Q) (kf : x = 0 → oG k d nx ls st M Q) : oG k d pc ls (.inl x :: st) M Q := by
  intro A p l e R s m args below meth c E H locs la cs sl Z C hE hR hS hP hl h1 h2 h3
  have hD := C.2.2.2.2.2.2.2.2.2.2.2.2
  obtain ⟨h4, rfl⟩ := oFt_dec (n := 2) hf rfl hD
  exact lv_if_ne C.1 C.2.1 h4 (oFt_br hf rfl hD) (fun q => kt q A p l e R s m args below meth c E H locs la cs sl Z C hE hR hS hP hl (oOk_tl h1) h2 h3) (fun q => kf q A p l e R s m args below meth c E H locs la cs sl Z C hE hR hS hP hl (oOk_tl h1) h2 h3)
theorem g_ic_ne {x y : Int32} {o : Int} (hf : oFt k pc = some (.if_icmp .ne o, nx, tg)) (kt : ¬ x = y → oG k d tg ls st M Q) (kf : x = y → oG k d nx ls st M Q) : oG k d pc ls (.inl y :: .inl x :: st) M Q := by
  intro A p l e R s m args below meth c E H locs la cs sl Z C hE hR hS hP hl h1 h2 h3
  have hD := C.2.2.2.2.2.2.2.2.2.2.2.2
  obtain ⟨h4, rfl⟩ := oFt_dec (n := 2) hf rfl hD
  exact lv_icmp_ne C.1 C.2.1 h4 (oFt_br hf rfl hD) (fun q => kt q A p l e R s m args below meth c E H locs la cs sl Z C hE hR hS hP hl (oOk_tl (oOk_tl h1)) h2 h3) (fun q => kf q A p l e R s m args below meth c E H locs la cs sl Z C hE hR hS hP hl (oOk_tl (oOk_tl h1)) h2 h3)
theorem g_if_lt {x : Int32} {o : Int} (hf : oFt k pc = some (.ifCond .lt o, nx, tg)) (kt : x < 0 → oG k d tg ls st M Q) (kf : ¬ x < 0 → oG k d nx ls st M Q) : oG k d pc ls (.inl x :: st) M Q := by
  intro A p l e R s m args below meth c E H locs la cs sl Z C hE hR hS hP hl h1 h2 h3
  have hD := C.2.2.2.2.2.2.2.2.2.2.2.2
  obtain ⟨h4, rfl⟩ := oFt_dec (n := 2) hf rfl hD
  exact lv_if_lt C.1 C.2.1 h4 (oFt_br hf rfl hD) (fun q => kt q A p l e R s m args below meth c E H locs la cs sl Z C hE hR hS hP hl (oOk_tl h1) h2 h3) (fun q => kf q A p l e R s m args below meth c E H locs la cs sl Z C hE hR hS hP hl (oOk_tl h1) h2 h3)
theorem g_ic_lt {x y : Int32} {o : Int} (hf : oFt k pc = some (.if_icmp .lt o, nx, tg)) (kt : x < y → oG k d tg ls st M Q) (kf : ¬ x < y → oG k d nx ls st M Q) : oG k d pc ls (.inl y :: .inl x :: st) M Q := by
  intro A p l e R s m args below meth c E H locs la cs sl Z C hE hR hS hP hl h1 h2 h3
  have hD := C.2.2.2.2.2.2.2.2.2.2.2.2
  obtain ⟨h4, rfl⟩ := oFt_dec (n := 2) hf rfl hD
  exact lv_icmp_lt C.1 C.2.1 h4 (oFt_br hf rfl hD) (fun q => kt q A p l e R s m args below meth c E H locs la cs sl Z C hE hR hS hP hl (oOk_tl (oOk_tl h1)) h2 h3) (fun q => kf q A p l e R s m args below meth c E H locs la cs sl Z C hE hR hS hP hl (oOk_tl (oOk_tl h1)) h2 h3)
theorem g_if_ge {x : Int32} {o : Int} (hf : oFt k pc = some (.ifCond .ge o, nx, tg)) (kt : 0 ≤ x → oG k d tg ls st M Q) (kf : ¬ 0 ≤ x → oG k d nx ls st M Q) : oG k d pc ls (.inl x :: st) M Q := by
  intro A p l e R s m args below meth c E H locs la cs sl Z C hE hR hS hP hl h1 h2 h3
  have hD := C.2.2.2.2.2.2.2.2.2.2.2.2
  obtain ⟨h4, rfl⟩ := oFt_dec (n := 2) hf rfl hD
  exact lv_if_ge C.1 C.2.1 h4 (oFt_br hf rfl hD) (fun q => kt q A p l e R s m args below meth c E H locs la cs sl Z C hE hR hS hP hl (oOk_tl h1) h2 h3) (fun q => kf q A p l e R s m args below meth c E H locs la cs sl Z C hE hR hS hP hl (oOk_tl h1) h2 h3)
theorem g_ic_ge {x y : Int32} {o : Int} (hf : oFt k pc = some (.if_icmp .ge o, nx, tg)) (kt : y ≤ x → oG k d tg ls st M Q) (kf : ¬ y ≤ x → oG k d nx ls st M Q) : oG k d pc ls (.inl y :: .inl x :: st) M Q := by
  intro A p l e R s m args below meth c E H locs la cs sl Z C hE hR hS hP hl h1 h2 h3
  have hD := C.2.2.2.2.2.2.2.2.2.2.2.2
  obtain ⟨h4, rfl⟩ := oFt_dec (n := 2) hf rfl hD
  exact lv_icmp_ge C.1 C.2.1 h4 (oFt_br hf rfl hD) (fun q => kt q A p l e R s m args below meth c E H locs la cs sl Z C hE hR hS hP hl (oOk_tl (oOk_tl h1)) h2 h3) (fun q => kf q A p l e R s m args below meth c E H locs la cs sl Z C hE hR hS hP hl (oOk_tl (oOk_tl h1)) h2 h3)
theorem g_if_gt {x : Int32} {o : Int} (hf : oFt k pc = some (.ifCond .gt o, nx, tg)) (kt : 0 < x → oG k d tg ls st M Q) (kf : ¬ 0 < x → oG k d nx ls st M Q) : oG k d pc ls (.inl x :: st) M Q := by
  intro A p l e R s m args below meth c E H locs la cs sl Z C hE hR hS hP hl h1 h2 h3
  have hD := C.2.2.2.2.2.2.2.2.2.2.2.2
  obtain ⟨h4, rfl⟩ := oFt_dec (n := 2) hf rfl hD
  exact lv_if_gt C.1 C.2.1 h4 (oFt_br hf rfl hD) (fun q => kt q A p l e R s m args below meth c E H locs la cs sl Z C hE hR hS hP hl (oOk_tl h1) h2 h3) (fun q => kf q A p l e R s m args below meth c E H locs la cs sl Z C hE hR hS hP hl (oOk_tl h1) h2 h3)
theorem g_ic_gt {x y : Int32} {o : Int} (hf : oFt k pc = some (.if_icmp .gt o, nx, tg)) (kt : y < x → oG k d tg ls st M Q) (kf : ¬ y < x → oG k d nx ls st M Q) : oG k d pc ls (.inl y :: .inl x :: st) M Q := by
  intro A p l e R s m args below meth c E H locs la cs sl Z C hE hR hS hP hl h1 h2 h3
  have hD := C.2.2.2.2.2.2.2.2.2.2.2.2
  obtain ⟨h4, rfl⟩ := oFt_dec (n := 2) hf rfl hD
  exact lv_icmp_gt C.1 C.2.1 h4 (oFt_br hf rfl hD) (fun q => kt q A p l e R s m args below meth c E H locs la cs sl Z C hE hR hS hP hl (oOk_tl (oOk_tl h1)) h2 h3) (fun q => kf q A p l e R s m args below meth c E H locs la cs sl Z C hE hR hS hP hl (oOk_tl (oOk_tl h1)) h2 h3)
theorem g_if_le {x : Int32} {o : Int} (hf : oFt k pc = some (.ifCond .le o, nx, tg)) (kt : x ≤ 0 → oG k d tg ls st M Q) (kf : ¬ x ≤ 0 → oG k d nx ls st M Q) : oG k d pc ls (.inl x :: st) M Q := by
  intro A p l e R s m args below meth c E H locs la cs sl Z C hE hR hS hP hl h1 h2 h3
  have hD := C.2.2.2.2.2.2.2.2.2.2.2.2
  obtain ⟨h4, rfl⟩ := oFt_dec (n := 2) hf rfl hD
  exact lv_if_le C.1 C.2.1 h4 (oFt_br hf rfl hD) (fun q => kt q A p l e R s m args below meth c E H locs la cs sl Z C hE hR hS hP hl (oOk_tl h1) h2 h3) (fun q => kf q A p l e R s m args below meth c E H locs la cs sl Z C hE hR hS hP hl (oOk_tl h1) h2 h3)
theorem g_ic_le {x y : Int32} {o : Int} (hf : oFt k pc = some (.if_icmp .le o, nx, tg)) (kt : x ≤ y → oG k d tg ls st M Q) (kf : ¬ x ≤ y → oG k d nx ls st M Q) : oG k d pc ls (.inl y :: .inl x :: st) M Q := by
  intro A p l e R s m args below meth c E H locs la cs sl Z C hE hR hS hP hl h1 h2 h3
  have hD := C.2.2.2.2.2.2.2.2.2.2.2.2
  obtain ⟨h4, rfl⟩ := oFt_dec (n := 2) hf rfl hD
  exact lv_icmp_le C.1 C.2.1 h4 (oFt_br hf rfl hD) (fun q => kt q A p l e R s m args below meth c E H locs la cs sl Z C hE hR hS hP hl (oOk_tl (oOk_tl h1)) h2 h3) (fun q => kf q A p l e R s m args below meth c E H locs la cs sl Z C hE hR hS hP hl (oOk_tl (oOk_tl h1)) h2 h3)
end RULES
