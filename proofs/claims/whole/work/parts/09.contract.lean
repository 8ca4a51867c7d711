/-! ===== contracts, calls ===== -/
def oDecB (c : ByteArray) (l : List (Nat × Instr × Nat × Nat)) : Bool := l.all (fun q => decide (decode c q.1 = .ok (q.2.1, q.2.2.1 - q.1)) && (decide (oLen q.2.1 = 0) || decide (q.2.2.1 = q.1 + oLen q.2.1)) && (oBrO q.2.1).all (fun o => decide ((q.1 : Int) + o = (q.2.2.2 : Int))))
theorem oDecB_ok {c : ByteArray} {l : List (Nat × Instr × Nat × Nat)} (h : oDecB c l = true) : ∀ q ∈ l, oRowOk c q := by
  intro q hq
  have h1 := List.all_eq_true.mp h q hq
  simp only [Bool.and_eq_true, Bool.or_eq_true, decide_eq_true_eq] at h1
  exact ⟨h1.1.1, h1.1.2, h1.2⟩
def oMok (k : Nat) : Prop := k < 237 ∧ oDec k ∧ lw_tbl[(oMP k).1]? = some (.code (oMY k) (oMC k) (oML k) (oMR k))
theorem oPl {k : Nat} (h : k < 237) : plainFor (oMY k) = true := by
  by_cases h1 : k < 225
  · exact plainFor_of_name (List.all_eq_true.mp oPl_all k (List.mem_range.mpr h1))
  · by_cases h2 : 229 ≤ k
    · have h4 : plainName (oMY (229 + (k - 229))).cls = true := List.all_eq_true.mp oPl2_all (k - 229) (List.mem_range.mpr (by omega))
      rw [show 229 + (k - 229) = k by omega] at h4
      exact plainFor_of_name h4
    · have h3 : k = 225 ∨ k = 226 ∨ k = 227 ∨ k = 228 := by omega
      rcases h3 with rfl | rfl | rfl | rfl
      · exact oPl_225
      · exact oPl_226
      · exact oPl_227
      · exact oPl_228
theorem oLw_gt {i : Nat} {w : Cond} (h : lw_tbl[i]? = some w) (hg : goodWord w = true) : w ∈ oGT := List.mem_filter.mpr ⟨List.mem_of_getElem? h, hg⟩
theorem oMok_facts {k : Nat} (h : k < 237) : oCN (oMO k) = (oMY k).cls ∧ ((oMY k).cls ≠ "java/lang/invoke/MethodHandle" ∧ (oMY k).cls ≠ "java/lang/invoke/VarHandle" ∧ (parseMethodDescriptor (oMY k).desc).map (fun d => d.parameters.length) = some (oNP k)) ∧ oML k ≤ 21 ∧ Cond.initialized (oMY k).cls ∈ oGT ∧ (oStat k = true → Cond.static (oMY k) ∈ oGT) ∧ (oStat k = false → Cond.instanceMethod (oMY k) ∈ oGT) ∧ (oStat k = false → oIni k = false → Cond.selects (oMY k).cls (oMY k) (oMY k) ∈ oGT) := by
  have h1 := List.all_eq_true.mp oMok_all k (List.mem_range.mpr h)
  unfold oMokB at h1
  simp only [Bool.and_eq_true, decide_eq_true_eq] at h1
  obtain ⟨⟨⟨⟨⟨⟨a1, a2⟩, a3⟩, a4⟩, a5⟩, a6⟩, a7⟩ := h1
  refine ⟨a1, ⟨a2, a3, a4⟩, a5, oLw_gt a6 rfl, fun hs => ?_, fun hs => ?_, fun hs hi => ?_⟩
  · rw [hs] at a7
    simp only [cond_true, decide_eq_true_eq] at a7
    exact oLw_gt a7 rfl
  · rw [hs] at a7
    simp only [cond_false, Bool.and_eq_true, decide_eq_true_eq] at a7
    exact oLw_gt a7.1 rfl
  · rw [hs, hi] at a7
    simp only [cond_false, Bool.and_eq_true, decide_eq_true_eq, Bool.false_or] at a7
    exact oLw_gt a7.2 rfl
def oRm (d : Nat) : Room := { frames := d, cells := 0, slots := 0, locals := 40 * d }
def oWd (E : oE) (M : oM) (U : State) : Prop := va_K E.1 vwCl (otys E) U ∧ oRO E (oA E) U U.heap ∧ (∀ w ∈ oNW, va_Nw w U) ∧ oInj E ∧ oRep E M U.heap
def oWk (k : Nat) : List Cond := .code (oMY k) (oMC k) (oML k) (oMR k) :: oGT
def oQc (E : oE) (Q : Option Int32 → oM → Prop) : Array Value → State → Outcome → State → Prop := fun _ st oc t => (∃ (r : Option Int32) (M : oM), oc = .returned (r.map Value.int) ∧ Q r M ∧ oRep E M t.heap) ∧ va_F (oA E) st t
def oCt (d k : Nat) (as : List oV) (M : oM) (Q : Option Int32 → oM → Prop) : Prop := ∀ (l : Launch) (E : oE), (∀ v ∈ as, oOk v) → Met l (oMY k) (oWk k) (oRm d) (va_Pc (as.map (ocv E)) (oWd E M)) (oQc E Q) 0 0 (oA E)
theorem lv_args_mem : ∀ (vs : List Value) (n i : Nat) (v : Value), (∀ w ∈ vs, w.category = 1) → vs[i]? = some v → (n + i, v) ∈ lv_args n vs
  | [], n, i, v, _, h => by simp at h
  | w :: vs, n, 0, v, hc, h => by
    have : w = v := by simpa using h
    rw [this]
    exact List.mem_cons_self
  | w :: vs, n, i + 1, v, hc, h => by
    have h1 : vs[i]? = some v := by simpa using h
    have hw : w.category = 1 := hc w List.mem_cons_self
    unfold lv_args
    rw [if_neg (by omega)]
    have := lv_args_mem vs (n + 1) i v (fun u hu => hc u (List.mem_cons_of_mem _ hu)) h1
    rw [show n + 1 + i = n + (i + 1) by omega] at this
    exact List.mem_cons_of_mem _ this
theorem lg_sl_len : ∀ (vs : List Value), (∀ w ∈ vs, w.category = 1) → (lg_sl vs).length = vs.length
  | [], _ => rfl
  | w :: vs, h => by
    have hw : w.category = 1 := h w List.mem_cons_self
    have ih := lg_sl_len vs (fun u hu => h u (List.mem_cons_of_mem _ hu))
    unfold lg_sl at ih ⊢
    rw [List.flatMap_cons, List.length_append, ih, if_neg (by omega)]
    simp
    omega
theorem oCt.of {d k : Nat} {as : List oV} {M : oM} {Q : Option Int32 → oM → Prop} {ls : List (Option oV)} (hk : oMok k) (hlen : Nat.ble as.length (oML k) = true) (hls : ls = as.map some ++ List.replicate (oML k - as.length) none) (body : oG k d 0 ls [] M Q) : oCt d k as M Q := by
  have hlen : as.length ≤ oML k := Nat.le_of_ble_eq_true hlen
  obtain ⟨f1, f2, f3, f4, -⟩ := oMok_facts hk.1
  intro l E hok
  refine va_MetF (cc := oMC k) (maxL := oML k) (ret := oMR k) (oPl hk.1) rfl ?_
  intro p e s m args below meth c s₁ B hml hv
  obtain ⟨rfl, hK, hRO, hN, hI, hRep⟩ := hv
  have hts := atoms_spec (ws := oWk k) B.pre
  have hov := hRO.2.2.2.2.2.2.2.1
  have C : oCX k (oA E) p s m (as.map (ocv E)).toArray meth c E := ⟨B.exec, B.bytes, hml, B.returns, B.notSynchronized, by rw [f1]; exact findClass_of_methodNamed B.named, fun w hw => hts w (List.mem_cons_of_mem _ hw), hK, hRO, hN, hI, fun _ h => h, hk.2.1⟩
  have hcat : ∀ w ∈ as.map (ocv E), w.category = 1 := fun w hw => by
    obtain ⟨v, -, rfl⟩ := List.mem_map.mp hw
    exact ocv_cat E hov v
  have hl := lv_entry (as.map (ocv E)) (n := oML k) (by rw [lg_sl_len _ hcat, List.length_map]; exact hlen)
  rw [lg_entry_eq]
  refine body (oA E) p l e _ s m _ below meth c E s.heap [] _ 0 0 _ C ?_ ⟨Nat.le_refl _, Nat.le_refl _, Nat.zero_le _, Nat.zero_le _⟩ va_S.rf hRep ?_ (fun v hv => by cases hv) ?_ ?_
  · intro r M' H locs pc la hq hP hS hret
    cases r with
    | none => exact W.vret B.exec B.bytes (by rw [B.returns]; exact hret.2) (fun t ht hW => ⟨⟨none, M', rfl, hq, by rw [ht]; exact hP⟩, hS.F ht⟩) hS.2.2 hret.1 B.notSynchronized
    | some v =>
      obtain ⟨hd, ty, h1, h2⟩ := hret
      exact W.zret B.exec B.bytes (by rw [B.returns]; exact h1) h2 (fun t ht hW => ⟨⟨some v, M', rfl, hq, by rw [ht]; exact hP⟩, hS.F ht⟩) hS.2.2 hd B.notSynchronized
  · refine ⟨hl.1, hl.2.1, fun q hq => hl.2.2 q ?_⟩
    obtain ⟨i, v, h1, rfl⟩ := (oEn_mem ls 0 q).mp hq
    refine lv_args_mem _ 0 i _ hcat ?_
    rw [hls] at h1
    by_cases hi : i < as.length
    · rw [List.getElem?_append_left (by rw [List.length_map]; exact hi), List.getElem?_map] at h1
      rw [List.getElem?_map]
      cases hz : as[i]? with
      | none => rw [hz] at h1; cases h1
      | some z =>
        rw [hz] at h1
        have : z = v := by simpa using h1
        rw [this]
        rfl
    · rw [List.getElem?_append_right (by rw [List.length_map]; omega), List.getElem?_replicate] at h1
      split at h1 <;> simp at h1
  · intro v hv
    rw [hls] at hv
    rcases List.mem_append.mp hv with h | h
    · obtain ⟨z, hz, hz2⟩ := List.mem_map.mp h
      have hzv : z = v := by simpa using hz2
      rw [← hzv]
      exact hok z hz
    · rw [List.mem_replicate] at h
      exact absurd h.2 (by simp)
  · rw [hls, List.length_append, List.length_map, List.length_replicate]
    omega
def oLkM : List (Nat × Nat × Nat × Nat × Nat) → Nat → Option (Nat × Nat × Nat × Nat)
  | [], _ => none
  | q :: r, i => cond (Nat.beq q.1 i) (some q.2) (oLkM r i)
theorem oLkM_mem : ∀ (l : List (Nat × Nat × Nat × Nat × Nat)) (i : Nat) (r : Nat × Nat × Nat × Nat), oLkM l i = some r → (i, r) ∈ l
  | [], _, _, h => by cases h
  | q :: l, i, r, h => by
    unfold oLkM at h
    cases hb : Nat.beq q.1 i with
    | true =>
      rw [hb] at h
      have e : q.1 = i := Nat.eq_of_beq_eq_true hb
      have h2 : q.2 = r := by simpa using h
      rw [← e, ← h2]
      exact List.mem_cons_self
    | false =>
      rw [hb] at h
      exact List.mem_cons_of_mem _ (oLkM_mem l i r (by simpa using h))
theorem oLks_nil {o : Nat} (ho : ¬ o < 25) : oLks o = [] := by
  unfold oLks
  rw [List.getD_eq_getElem?_getD, List.getElem?_eq_none (by simpa using ho)]
  rfl
theorem oLks_at {o idx : Nat} {r : Nat × Nat × Nat × Nat} (h : oLkM (oLks o) idx = some r) : o < 25 ∧ (idx, r) ∈ oLks o := by
  refine ⟨?_, oLkM_mem _ _ _ h⟩
  by_cases ho : o < 25
  · exact ho
  · rw [oLks_nil ho] at h
    cases h
theorem oLks_V {o idx k' n p : Nat} (h : oLkM (oLks o) idx = some (0, k', n, p)) : k' < 237 ∧ oNP k' = n ∧ oStat k' = false ∧ oIni k' = false ∧ Cond.methodLink (oCN o) idx (oMY k') ∈ oGT := by
  obtain ⟨ho, hm⟩ := oLks_at h
  have h1 := List.all_eq_true.mp (List.all_eq_true.mp oLks_all o (List.mem_range.mpr ho)) _ hm
  simp only [Bool.and_eq_true, decide_eq_true_eq, Bool.not_eq_true'] at h1
  exact ⟨h1.1.1, h1.1.2, h1.2.1.1, h1.2.1.2, oLw_gt h1.2.2 rfl⟩
theorem oLks_S {o idx k' n p : Nat} (h : oLkM (oLks o) idx = some (1, k', n, p)) : k' < 237 ∧ oNP k' = n ∧ oStat k' = true ∧ Cond.methodLink (oCN o) idx (oMY k') ∈ oGT := by
  obtain ⟨ho, hm⟩ := oLks_at h
  have h1 := List.all_eq_true.mp (List.all_eq_true.mp oLks_all o (List.mem_range.mpr ho)) _ hm
  simp only [Bool.and_eq_true, decide_eq_true_eq, Bool.not_eq_true'] at h1
  exact ⟨h1.1.1, h1.1.2, h1.2.1, oLw_gt h1.2.2 rfl⟩
theorem oLks_SN {o idx k' n p : Nat} (h : oLkM (oLks o) idx = some (2, k', n, p)) : k' < 237 ∧ oNP k' = n ∧ oStat k' = true ∧ Cond.methodLinkNest (oCN o) idx (oMY k') "OakDeeds" ∈ oNW := by
  obtain ⟨ho, hm⟩ := oLks_at h
  have h1 := List.all_eq_true.mp (List.all_eq_true.mp oLks_all o (List.mem_range.mpr ho)) _ hm
  simp only [Bool.and_eq_true, decide_eq_true_eq, Bool.not_eq_true'] at h1
  exact ⟨h1.1.1, h1.1.2, h1.2.1, List.mem_of_getElem? h1.2.2⟩
theorem oWk_good {k' : Nat} (hk : oMok k') : GoodIn oGT (oWk k') := by
  intro w hw
  rcases List.mem_cons.mp hw with rfl | hw
  · have h := oLw_gt hk.2.2 rfl
    exact ⟨h, good_of_word (oGT_good h)⟩
  · exact ⟨hw, good_of_word (oGT_good hw)⟩
theorem oNW_warm : ∀ w ∈ oNW, ∀ {s U : State}, s.WarmedH U.vm → va_Nw w s → va_Nw w U := by
  intro w hw s U hW h
  have key : ∀ w ∈ oNW, (∃ a i b n d h, w = Cond.fieldLinkNest a i b n d h) ∨ (∃ a i x h, w = Cond.methodLinkNest a i x h) := by
    unfold oNW
    simp only [List.forall_mem_cons]
    refine ⟨?_, ?_, ?_, ?_, ?_, ?_, ?_, ?_, ?_, ?_, ?_, ?_, ?_, ?_, ?_, ?_, fun _ h => by cases h⟩ <;> first | exact Or.inr ⟨_, _, _, _, rfl⟩ | exact Or.inl ⟨_, _, _, _, _, _, rfl⟩
  rcases key w hw with ⟨a, i, b, n, d, h', rfl⟩ | ⟨a, i, x, h', rfl⟩
  · exact h.warmF hW
  · exact h.warmM hW
theorem oNW_tables : ∀ w ∈ oNW, w.onTables = true := by
  unfold oNW
  simp only [List.forall_mem_cons]
  refine ⟨?_, ?_, ?_, ?_, ?_, ?_, ?_, ?_, ?_, ?_, ?_, ?_, ?_, ?_, ?_, ?_, fun _ h => by cases h⟩ <;> rfl
theorem oWd_blind (E : oE) (M : oM) (av : List Value) : FrameBlind (va_Pc av (oWd E M)) := by
  intro a U g mk h
  obtain ⟨rfl, h1, h2, h3, h4, h5⟩ := h
  refine ⟨rfl, va_K.moved (u := U) (U := U.calling g mk av.toArray) (Vm.Alike.refl U.vm) h1, oRO.same (s := U) (U := U.calling g mk av.toArray) rfl h2, fun w hw => va_Nw.same (u := U) (oNW_tables w hw) rfl (h3 w hw), h4, h5⟩
theorem oWd_at {A : Nat → Prop} {k : Nat} {p : Program} {s : State} {m : MethodId} {args : Array Value} {meth : Method} {c : Code} {E : oE} {H : Heap} {locs : List Loc} {M : oM} (C : oCX k A p s m args meth c E) (hS : va_S A s.heap H locs) (hP : oRep E M H) {U : State} (hU : U.heap = H) (hW : s.WarmedH U.vm) : oWd E M U := by
  obtain ⟨-, -, -, -, -, -, -, hK, hRO, hN, hI, hA, -⟩ := C
  refine ⟨va_K.moved hW.alike hK, ?_, fun w hw => oNW_warm w hw hW (hN w hw), hI, by rw [hU]; exact hP⟩
  rw [hU]
  exact (hRO.warm hW hS.1 hS.2.1).narrow hA
/-- behind a call -/
theorem oCall {A : Nat → Prop} {k d pc : Nat} {p : Program} {l : Launch} {e : Env} {R : Room} {s : State} {m : MethodId} {args : Array Value} {below : List Frame} {meth : Method} {c : Code} {E : oE} {H : Heap} {locs : List Loc} {la : Array Slot} {cs sl : Nat} {Z : State → Prop} {ls : List (Option oV)} {rest : List oV} {st0 : List Value} {Q Q' : Option Int32 → oM → Prop} {av : Array Value}
    (C : oCX k A p s m args meth c E) (hE : oEnd k A p l e R s m args below meth c E Q cs sl Z) (hR : d ≤ R.frames ∧ 40 * d ≤ R.locals ∧ cs ≤ R.cells ∧ sl ≤ R.slots) (hS : va_S A s.heap H locs) (hlv : lv_has la (oML k) (oEn E 0 ls)) (h1 : ∀ v ∈ rest, oOk v) (h2 : ∀ v, some v ∈ ls → oOk v) (h3 : ls.length = oML k)
    (hr : va_Run p l e R s m args below meth c H locs cs sl 0 0 (F0 m pc la st0) (rest.map (ocv E)) (oQc E Q' av) (oA E))
    (kk : ∀ r M', Q' r M' → oG k d (pc + 3) ls (r.toList.map Sum.inl ++ rest) M' Q) : W p l e R s m args below meth c H locs cs sl Z (F0 m pc la st0) := by
  have hA := C.2.2.2.2.2.2.2.2.2.2.2.1
  intro T hT X
  obtain ⟨v, st₀, t, T', L, h0, X', hL, e1, e2, ⟨⟨r, M', hv, hq, hP1⟩, hz, hkeep⟩, st⟩ := hr T hT X
  rw [h0] at hz hkeep
  have hS1 : va_S A s.heap T'.heap (locs ++ L) := ⟨Nat.le_trans hS.1 (by rw [e1]; exact hz), fun q h1 h2 => by rw [e1, hkeep q (Nat.lt_of_lt_of_le h1 hS.1) (fun z => h2 (hA q z))]; exact hS.2.1 q h1 h2, fun q hq => by
    rcases List.mem_append.mp hq with h | h
    · exact hS.2.2 q h
    · exact hA _ (hL q h)⟩
  have hvr : v = r.map Value.int := Outcome.returned.inj hv
  have kw := kk r M' hq A p l e R s m args below meth c E T'.heap (locs ++ L) la cs sl Z C hE hR hS1 (by rw [e1]; exact hP1) hlv (by
    intro w hw
    rcases List.mem_append.mp hw with h | h
    · obtain ⟨z, -, rfl⟩ := List.mem_map.mp h
      trivial
    · exact h1 w h) h2 h3
  obtain ⟨t2, a1, b1⟩ := kw T' rfl X'
  refine ⟨t2, st t2 ?_, b1⟩
  have e3 : v.toList ++ rest.map (ocv E) = (r.toList.map Sum.inl ++ rest).map (ocv E) := by
    rw [hvr, List.map_append, List.map_map]
    cases r <;> rfl
  rw [e3]
  exact a1
section CALLS
variable {k d pc nx tg : Nat} {ls : List (Option oV)} {st : List oV} {M : oM} {Q : Option Int32 → oM → Prop}
/-- the arguments of a call, in their order, and what lies below them -/
def oArgs : Nat → List oV → List oV → Option (List oV × List oV)
  | 0, acc, st => some (acc, st)
  | n + 1, acc, v :: st => oArgs n (v :: acc) st
  | _ + 1, _, [] => none
theorem oArgs_ok : ∀ (n : Nat) (acc st as rest : List oV), oArgs n acc st = some (as, rest) → ∃ bs, as = bs ++ acc ∧ st = bs.reverse ++ rest ∧ bs.length = n
  | 0, acc, st, as, rest, h => by
    unfold oArgs at h
    cases h
    exact ⟨[], rfl, rfl, rfl⟩
  | n + 1, acc, [], as, rest, h => by
    unfold oArgs at h
    cases h
  | n + 1, acc, v :: st, as, rest, h => by
    unfold oArgs at h
    obtain ⟨bs, h1, h2, h3⟩ := oArgs_ok n (v :: acc) st as rest h
    refine ⟨bs ++ [v], by rw [h1]; simp, by rw [h2]; simp, by simp [h3]⟩
theorem oSum_le {E : oE} (hov : oov E = .null ∨ ∃ a, oov E = .ref a) : ∀ (r : List oV), ((r.map (ocv E)).map fun v => v.category).sum = r.length
  | [] => rfl
  | v :: r => by
    rw [List.map_cons, List.map_cons, List.sum_cons, oSum_le hov r, ocv_cat E hov v, List.length_cons]
    omega
/-- which class the receiver of a kind is of -/
def oRcv (kd : Nat) : Option String := if kd = K_STR then some "java/lang/String" else match oKD kd with
  | .inl (ci, _) => if ci < 11 then some (oCl ci).1 else none
  | _ => none
theorem g_callS {idx k' n p' d' : Nat} {as rest : List oV} {Q' : Option Int32 → oM → Prop} (hf : oFt k pc = some (.invokestatic idx, nx, tg)) (hl : oLkM (oLks (oMO k)) idx = some (1, k', n, p')) (ha : oArgs n [] st = some (as, rest)) (hrest : Nat.ble rest.length 8 = true) (hk : oMok k') (hd : d' + 1 ≤ d) (hc : oCt d' k' as M Q')
    (kk : ∀ r M', Q' r M' → oG k d nx ls (r.toList.map Sum.inl ++ rest) M' Q) : oG k d pc ls st M Q := by
  intro A p l e R s m args below meth c E H locs la cs sl Z C hE hR hS hP hlv h1 h2 h3
  obtain ⟨h4, rfl⟩ := oFt_dec (n := 2) hf rfl C.2.2.2.2.2.2.2.2.2.2.2.2
  have hov := C.2.2.2.2.2.2.2.2.1.2.2.2.2.2.2.2.1
  obtain ⟨hk1, hnp, hst, hlink⟩ := oLks_S hl
  obtain ⟨f1, f2, f3, f4, f5, -⟩ := oMok_facts hk1
  obtain ⟨bs, rfl, rfl, hbl⟩ := oArgs_ok n [] st as rest ha
  rw [List.append_nil] at hc
  have hts := C.2.2.2.2.2.2.1
  have cw : CallB R s args (oCN (oMO k)) idx (oMY k') (oMC k') (oML k') (oMR k') (oWk k') (oRm d') 0 0 n ∧ (Cond.static (oMY k')).before args s = true :=
    ⟨callB_of n hts (oWk_good hk) rfl rfl rfl (hts _ f4) (hts _ hlink) (by rw [← hnp]; exact f2) ⟨by show d' + 1 ≤ R.frames; omega, by show 8 + (oML k' + 11) + 40 * d' ≤ R.locals; omega⟩, hts _ (f5 hst)⟩
  have hr := va_runS (p := p) (l := l) (e := e) (below := below) (meth := meth) (locs := locs) (cells := cs) (slots := sl) (nL := oML k) (As := bs.map (ocv E)) (rest := rest.map (ocv E)) (g := F0 m pc la ((bs.reverse ++ rest).map (ocv E))) (Ts := oGT) ⟨C.1, C.2.1, C.2.2.1, C.2.2.2.2.2.1, hts⟩ (hc l E (fun v hv => h1 v (List.mem_append_left _ (List.mem_reverse.mpr hv)))) cw ⟨oWd_blind E M _, fun U hU hW => ⟨rfl, oWd_at C hS hP hU hW⟩⟩ rfl (by rw [List.length_map]; exact hbl) hlv.1 (by show (bs.reverse ++ rest).map (ocv E) = _; rw [List.map_append, List.map_reverse]) (by show 2 * 0 + _ ≤ 8; rw [oSum_le hov]; have := Nat.le_of_ble_eq_true hrest; omega) h4 ⟨hR.2.2.1, hR.2.2.2⟩
  exact oCall C hE hR hS hlv (fun v hv => h1 v (List.mem_append_right _ hv)) h2 h3 hr kk
theorem g_callSN {idx k' n p' d' : Nat} {as rest : List oV} {Q' : Option Int32 → oM → Prop} (hf : oFt k pc = some (.invokestatic idx, nx, tg)) (hl : oLkM (oLks (oMO k)) idx = some (2, k', n, p')) (ha : oArgs n [] st = some (as, rest)) (hrest : Nat.ble rest.length 8 = true) (hk : oMok k') (hd : d' + 1 ≤ d) (hc : oCt d' k' as M Q')
    (kk : ∀ r M', Q' r M' → oG k d nx ls (r.toList.map Sum.inl ++ rest) M' Q) : oG k d pc ls st M Q := by
  intro A p l e R s m args below meth c E H locs la cs sl Z C hE hR hS hP hlv h1 h2 h3
  obtain ⟨h4, rfl⟩ := oFt_dec (n := 2) hf rfl C.2.2.2.2.2.2.2.2.2.2.2.2
  have hov := C.2.2.2.2.2.2.2.2.1.2.2.2.2.2.2.2.1
  obtain ⟨hk1, hnp, hst, hlink⟩ := oLks_SN hl
  obtain ⟨f1, f2, f3, f4, f5, -⟩ := oMok_facts hk1
  obtain ⟨bs, rfl, rfl, hbl⟩ := oArgs_ok n [] st as rest ha
  rw [List.append_nil] at hc
  have hts := C.2.2.2.2.2.2.1
  have cw := va_cnB (R := R) (s := s) (args := args) (rm := oRm d') (mc := 0) (ms := 0) n hts (oWk_good hk) rfl rfl rfl (C.2.2.2.2.2.2.2.2.2.1 _ hlink) (hts _ f4) (by rw [← hnp]; exact f2) ⟨by show d' + 1 ≤ R.frames; omega, by show 8 + (oML k' + 11) + 40 * d' ≤ R.locals; omega⟩
  have hr := va_runSN (p := p) (l := l) (e := e) (below := below) (meth := meth) (locs := locs) (cells := cs) (slots := sl) (nL := oML k) (As := bs.map (ocv E)) (rest := rest.map (ocv E)) (g := F0 m pc la ((bs.reverse ++ rest).map (ocv E))) (Ts := oGT) ⟨C.1, C.2.1, C.2.2.1, C.2.2.2.2.2.1, hts⟩ (hc l E (fun v hv => h1 v (List.mem_append_left _ (List.mem_reverse.mpr hv)))) ⟨cw, hts _ (f5 hst), trivial⟩ ⟨oWd_blind E M _, fun U hU hW => ⟨rfl, oWd_at C hS hP hU hW⟩⟩ rfl (by rw [List.length_map]; exact hbl) hlv.1 (by show (bs.reverse ++ rest).map (ocv E) = _; rw [List.map_append, List.map_reverse]) (by show 2 * 0 + _ ≤ 8; rw [oSum_le hov]; have := Nat.le_of_ble_eq_true hrest; omega) h4 ⟨hR.2.2.1, hR.2.2.2⟩
  exact oCall C hE hR hS hlv (fun v hv => h1 v (List.mem_append_right _ hv)) h2 h3 hr kk
theorem oRecv {A : Nat → Prop} {p : Program} {s : State} {m : MethodId} {args : Array Value} {meth : Method} {c : Code} {E : oE} {H : Heap} {locs : List Loc} {kd i : Nat} {cn : String} (C : oCX k A p s m args meth c E) (hS : va_S A s.heap H locs) (hP : oRep E M H) (hi : i < oCnt kd) (hc : oRcv kd = some cn) : oRfv E kd i = .ref (oad E kd i) ∧ ∃ cell : Cell, H[oad E kd i]? = some cell ∧ cell.vm.isStatics = false ∧ s.vm.findClass cn = some cell.cls := by
  unfold oRcv at hc
  by_cases hk : kd = K_STR
  · subst hk
    rw [if_pos rfl] at hc
    cases hc
    have hi3 : i < 3 := hi
    exact ⟨rfl, vk_recv C.2.2.2.2.2.2.2.2.1.2.2.2.2.1 hi3 hS⟩
  · rw [if_neg hk] at hc
    cases ho : oKD kd with
    | inr x => rw [ho] at hc; cases hc
    | inl x =>
      obtain ⟨ci, fds⟩ := x
      rw [ho] at hc
      simp only at hc
      by_cases hci : ci < 11
      · rw [if_pos hci] at hc
        cases hc
        have hkd := oKD_lt' hci ho
        obtain ⟨q0, hq0⟩ := oPK_at hkd hi
        have hw := oWS_at (E := E) (M := M) hq0
        have he : oEnt E M kd i = .inr (ci, oFV E (M kd i) i 0 fds) := by unfold oEnt; rw [ho]; rfl
        rw [he] at hw
        exact ⟨oRfv_ref hkd, va_recv C.2.2.2.2.2.2.2.1 hP.1 (oCl_at hci) hw⟩
      · rw [if_neg hci] at hc
        cases hc
theorem g_callV {idx k' n p' d' kd i : Nat} {as rest : List oV} {Q' : Option Int32 → oM → Prop} (hf : oFt k pc = some (.invokevirtual idx, nx, tg)) (hl : oLkM (oLks (oMO k)) idx = some (0, k', n, p')) (ha : oArgs n [] st = some (as, .inr (kd, i) :: rest)) (hrest : Nat.ble rest.length 8 = true) (hrc : oRcv kd = some (oMY k').cls) (hk : oMok k') (hd : d' + 1 ≤ d) (hc : oCt d' k' (.inr (kd, i) :: as) M Q')
    (kk : ∀ r M', Q' r M' → oG k d nx ls (r.toList.map Sum.inl ++ rest) M' Q) : oG k d pc ls st M Q := by
  intro A p l e R s m args below meth c E H locs la cs sl Z C hE hR hS hP hlv h1 h2 h3
  obtain ⟨h4, rfl⟩ := oFt_dec (n := 2) hf rfl C.2.2.2.2.2.2.2.2.2.2.2.2
  have hov := C.2.2.2.2.2.2.2.2.1.2.2.2.2.2.2.2.1
  obtain ⟨hk1, hnp, hst, hini, hlink⟩ := oLks_V hl
  obtain ⟨f1, f2, f3, f4, -, f6, f7⟩ := oMok_facts hk1
  obtain ⟨bs, rfl, rfl, hbl⟩ := oArgs_ok n [] st as _ ha
  rw [List.append_nil] at hc
  have hts := C.2.2.2.2.2.2.1
  have hi : i < oCnt kd := h1 (.inr (kd, i)) (List.mem_append_right _ List.mem_cons_self)
  obtain ⟨hrf, hcell⟩ := oRecv C hS hP hi hrc
  have cw : CallW R s args (oCN (oMO k)) (oMY k').cls idx (oMY k') (oMC k') (oML k') (oMR k') (oWk k') (oRm d') 0 0 n :=
    ⟨callB_of n hts (oWk_good hk) rfl rfl rfl (hts _ f4) (hts _ hlink) (by rw [← hnp]; exact f2) ⟨by show d' + 1 ≤ R.frames; omega, by show 8 + (oML k' + 11) + 40 * d' ≤ R.locals; omega⟩, hts _ (f6 hst), hts _ (f7 hst hini)⟩
  have hcc := hc l E (fun v hv => by
    rcases List.mem_cons.mp hv with rfl | hv
    · exact hi
    · exact h1 v (List.mem_append_left _ (List.mem_reverse.mpr hv)))
  rw [List.map_cons, show ocv E (.inr (kd, i)) = .ref (oad E kd i) from hrf] at hcc
  have hr := va_runV (p := p) (l := l) (e := e) (below := below) (meth := meth) (locs := locs) (cells := cs) (slots := sl) (nL := oML k) (b := oad E kd i) (As := bs.map (ocv E)) (rest := rest.map (ocv E)) (g := F0 m pc la ((bs.reverse ++ .inr (kd, i) :: rest).map (ocv E))) (Ts := oGT) ⟨C.1, C.2.1, C.2.2.1, C.2.2.2.2.2.1, hts⟩ hcc cw ⟨oWd_blind E M _, hcell, fun U hU hW => ⟨rfl, oWd_at C hS hP hU hW⟩⟩ rfl (by rw [List.length_map]; exact hbl) hlv.1 (by show (bs.reverse ++ .inr (kd, i) :: rest).map (ocv E) = _; rw [List.map_append, List.map_reverse, List.map_cons, show ocv E (.inr (kd, i)) = .ref (oad E kd i) from hrf]) (by show 2 * 0 + _ ≤ 8; rw [oSum_le hov]; have := Nat.le_of_ble_eq_true hrest; omega) h4 ⟨hR.2.2.1, hR.2.2.2⟩
  exact oCall C hE hR hS hlv (fun v hv => h1 v (List.mem_append_right _ (List.mem_cons_of_mem _ hv))) h2 h3 hr kk
end CALLS
