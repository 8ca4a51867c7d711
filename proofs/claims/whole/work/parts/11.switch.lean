/-! ===== switches, System.arraycopy ===== -/
def oSwG (k d : Nat) (ls : List (Option oV)) (st : List oV) (M : oM) (Q : Option Int32 → oM → Prop) (x : Int32) : List (Int32 × Nat) → Prop
  | [] => True
  | (v, t) :: r => (x = v → oG k d t ls st M Q) ∧ oSwG k d ls st M Q x r
theorem oSwG_at {k d : Nat} {ls : List (Option oV)} {st : List oV} {M : oM} {Q : Option Int32 → oM → Prop} {x : Int32} : ∀ (cs : List (Int32 × Nat)) (j : Nat) (v : Int32) (t : Nat), oSwG k d ls st M Q x cs → cs[j]? = some (v, t) → x = v → oG k d t ls st M Q
  | [], j, v, t, _, h, _ => by simp at h
  | q :: r, 0, v, t, h, hj, hx => by
    have : q = (v, t) := by simpa using hj
    subst this
    exact h.1 hx
  | q :: r, j + 1, v, t, h, hj, hx => oSwG_at r j v t h.2 (by simpa using hj) hx
def oTswOk (pc : Nat) (dflt lo hi : Int) (offs : List Int) : List (Int32 × Nat) → Int → Bool
  | [], v => decide (offs = []) && decide (v = hi + 1)
  | (w, t) :: r, v => decide (w.toInt = v) && (match offs with
    | o :: os => decide ((pc : Int) + o = (t : Int)) && oTswOk pc dflt lo hi os r (v + 1)
    | [] => false)
theorem oTsw_at {pc : Nat} {dflt lo hi : Int} : ∀ (cs : List (Int32 × Nat)) (offs : List Int) (v : Int), oTswOk pc dflt lo hi offs cs v = true → (v ≤ hi + 1) ∧ (∀ q ∈ cs, v ≤ q.1.toInt ∧ q.1.toInt ≤ hi) ∧ ∀ (x : Int), v ≤ x → x ≤ hi → ∃ (w : Int32) (t : Nat) (o : Int), cs[(x - v).toNat]? = some (w, t) ∧ offs[(x - v).toNat]? = some o ∧ w.toInt = x ∧ (pc : Int) + o = (t : Int)
  | [], offs, v, h => by
    simp only [oTswOk, Bool.and_eq_true, decide_eq_true_eq] at h
    refine ⟨by omega, fun q hq => (by cases hq), fun x h1 h2 => by omega⟩
  | (w, t) :: r, offs, v, h => by
    unfold oTswOk at h
    rw [Bool.and_eq_true, decide_eq_true_eq] at h
    obtain ⟨hw, h⟩ := h
    cases offs with
    | nil => cases h
    | cons o os =>
      simp only [Bool.and_eq_true, decide_eq_true_eq] at h
      obtain ⟨a1, a2, a3⟩ := oTsw_at r os (v + 1) h.2
      refine ⟨by omega, fun q hq => ?_, fun x h1 h2 => ?_⟩
      · rcases List.mem_cons.mp hq with rfl | hq
        · dsimp only
          omega
        · have := a2 q hq
          omega
      · by_cases hx : x = v
        · subst hx
          rw [Int.sub_self]
          exact ⟨w, t, o, rfl, rfl, hw, h.1⟩
        · obtain ⟨w', t', o', b1, b2, b3, b4⟩ := a3 x (by omega) h2
          rw [show (x - v).toNat = (x - (v + 1)).toNat + 1 by omega]
          exact ⟨w', t', o', by simpa using b1, by simpa using b2, b3, b4⟩
theorem g_tsw {k d pc nx tg : Nat} {ls : List (Option oV)} {st : List oV} {M : oM} {Q : Option Int32 → oM → Prop} {x : Int32} {dflt lo hi : Int} {offs : Array Int} (cs : List (Int32 × Nat)) (df : Nat) (hf : oFt k pc = some (.tableswitch dflt lo hi offs, nx, tg)) (hc : oTswOk pc dflt lo hi offs.toList cs lo = true) (hd : (pc : Int) + dflt = (df : Int)) (kin : oSwG k d ls st M Q x cs) (kout : (∀ q ∈ cs, ¬ x = q.1) → oG k d df ls st M Q) : oG k d pc ls (.inl x :: st) M Q := by
  intro A p l e R s m args below meth c E H locs la cs' sl Z C hE hR hS hP hv h1 h2 h3
  have h4 := (oFt_row C.2.2.2.2.2.2.2.2.2.2.2.2 hf).1
  obtain ⟨a1, a2, a3⟩ := oTsw_at cs offs.toList lo hc
  by_cases hx : x.toInt < lo ∨ hi < x.toInt
  · refine lv_tableOut C.1 C.2.1 h4 hx hd ?_
    refine kout (fun q hq he => ?_) A p l e R s m args below meth c E H locs la cs' sl Z C hE hR hS hP hv (oOk_tl h1) h2 h3
    have := a2 q hq
    rw [← he] at this
    omega
  · obtain ⟨w, t, o, b1, b2, b3, b4⟩ := a3 x.toInt (by omega) (by omega)
    refine lv_tableIn (off := o) (tgt := t) C.1 C.2.1 h4 (by omega) (by omega) (by rw [← Array.getElem?_toList]; exact b2) b4 ?_
    exact oSwG_at cs _ w t kin b1 (Int32.toInt_inj.mp b3.symm) A p l e R s m args below meth c E H locs la cs' sl Z C hE hR hS hP hv (oOk_tl h1) h2 h3
def oLswOk (pc : Nat) : List (Int × Int) → List (Int32 × Nat) → Bool
  | [], [] => true
  | (a, o) :: ps, (w, t) :: cs => decide (w.toInt = a) && decide ((pc : Int) + o = (t : Int)) && oLswOk pc ps cs
  | _, _ => false
theorem oLsw_at {pc : Nat} {dflt : Int} {df : Nat} (hd : (pc : Int) + dflt = (df : Int)) : ∀ (ps : List (Int × Int)) (cs : List (Int32 × Nat)) (x : Int32), oLswOk pc ps cs = true → (∃ (j : Nat) (w : Int32) (t : Nat), cs[j]? = some (w, t) ∧ x = w ∧ (pc : Int) + Op.lookupswitch.offset ps dflt x.toInt = (t : Int)) ∨ ((∀ q ∈ cs, ¬ x = q.1) ∧ (pc : Int) + Op.lookupswitch.offset ps dflt x.toInt = (df : Int))
  | [], [], x, _ => Or.inr ⟨fun q hq => (by cases hq), by simpa [Op.lookupswitch.offset] using hd⟩
  | [], _ :: _, x, h => by cases h
  | _ :: _, [], x, h => by cases h
  | (a, o) :: ps, (w, t) :: cs, x, h => by
    simp only [oLswOk, Bool.and_eq_true, decide_eq_true_eq] at h
    obtain ⟨⟨hw, ht⟩, hr⟩ := h
    rw [Op.lookupswitch.offset_cons]
    by_cases hx : a = x.toInt
    · rw [if_pos hx]
      exact Or.inl ⟨0, w, t, rfl, Int32.toInt_inj.mp (by rw [hw, hx]), ht⟩
    · rw [if_neg hx]
      rcases oLsw_at hd ps cs x hr with ⟨j, w', t', b1, b2, b3⟩ | ⟨b1, b2⟩
      · exact Or.inl ⟨j + 1, w', t', by simpa using b1, b2, b3⟩
      · refine Or.inr ⟨fun q hq he => ?_, b2⟩
        rcases List.mem_cons.mp hq with rfl | hq
        · exact hx (by rw [he]; exact hw.symm)
        · exact b1 q hq he
theorem g_lsw {k d pc nx tg : Nat} {ls : List (Option oV)} {st : List oV} {M : oM} {Q : Option Int32 → oM → Prop} {x : Int32} {dflt : Int} {ps : Array (Int × Int)} (cs : List (Int32 × Nat)) (df : Nat) (hf : oFt k pc = some (.lookupswitch dflt ps, nx, tg)) (hs : (ps.toList.zip (ps.toList.drop 1)).all (fun (a, next) => a.1 < next.1) = true) (hc : oLswOk pc ps.toList cs = true) (hd : (pc : Int) + dflt = (df : Int)) (kin : oSwG k d ls st M Q x cs) (kout : (∀ q ∈ cs, ¬ x = q.1) → oG k d df ls st M Q) : oG k d pc ls (.inl x :: st) M Q := by
  intro A p l e R s m args below meth c E H locs la cs' sl Z C hE hR hS hP hv h1 h2 h3
  have h4 := (oFt_row C.2.2.2.2.2.2.2.2.2.2.2.2 hf).1
  rcases oLsw_at hd ps.toList cs x hc with ⟨j, w, t, b1, b2, b3⟩ | ⟨b1, b2⟩
  · refine lv_lookup (tgt := t) C.1 C.2.1 h4 hs rfl b3 ?_
    exact oSwG_at cs j w t kin b1 b2 A p l e R s m args below meth c E H locs la cs' sl Z C hE hR hS hP hv (oOk_tl h1) h2 h3
  · refine lv_lookup (tgt := df) C.1 C.2.1 h4 hs rfl b2 ?_
    exact kout b1 A p l e R s m args below meth c E H locs la cs' sl Z C hE hR hS hP hv (oOk_tl h1) h2 h3
-- System.arraycopy of ints
def oCp (M : oM) (k0 i0 k1 i1 sp dp n : Nat) : oM := fun k' => if k' = k1 then (fun i' => if i' = i1 then va_cpy (M k0 i0) (M k1 i1) sp dp n else M k1 i') else M k'
theorem oCp_ne {M : oM} {k0 i0 k1 i1 sp dp n : Nat} {k' i' : Nat} (h : ¬ (k' = k1 ∧ i' = i1)) : oCp M k0 i0 k1 i1 sp dp n k' i' = M k' i' := by
  unfold oCp
  by_cases hk : k' = k1
  · subst hk
    have hi : ¬ i' = i1 := fun q => h ⟨rfl, q⟩
    rw [if_pos rfl, if_neg hi]
  · rw [if_neg hk]
theorem oCp_at {M : oM} {k0 i0 k1 i1 sp dp n : Nat} : oCp M k0 i0 k1 i1 sp dp n k1 i1 = va_cpy (M k0 i0) (M k1 i1) sp dp n := by
  unfold oCp
  rw [if_pos rfl, if_pos rfl]
def oAcL : List (Nat × Nat × Nat) := [(9, 347, 905), (5, 28, 923)]
theorem oAcL_ok : oAcL.all (fun q => decide (tables_1[q.2.2]? = some (.methodLink (oCN q.1) q.2.1 arraycopyName))) = true := by decide +kernel
theorem oW_acn : Cond.native arraycopyName ∈ oGT := oGT_of (List.mem_of_getElem? (i := 907) (by decide +kernel)) rfl
theorem oW_acs : Cond.static arraycopyName ∈ oGT := oGT_of (List.mem_of_getElem? (i := 906) (by decide +kernel)) rfl
theorem oW_aci : Cond.initialized "java/lang/System" ∈ oGT := oGT_of (List.mem_of_getElem? (i := 19) (by decide +kernel)) rfl
theorem g_copy {k d pc nx tg : Nat} {ls : List (Option oV)} {st : List oV} {M : oM} {Q : Option Int32 → oM → Prop} {idx ps : Nat} (sp dp n : Nat) {k0 i0 n0 k1 i1 n1 : Nat} {a b c0 : Int32} (hf : oFt k pc = some (.invokestatic idx, nx, tg)) (hl : (oMO k, idx, ps) ∈ oAcL) (hd : 2 ≤ d) (hst : Nat.ble st.length 8 = true) (h0 : oKD k0 = .inr (0, n0, none)) (h1k : oKD k1 = .inr (0, n1, none)) (ha : a = nI sp) (hb : b = nI dp) (hc : c0 = nI n) (hs0 : sp + n ≤ n0) (hs1 : dp + n ≤ n1)
    (kk : oG k d nx ls st (oCp M k0 i0 k1 i1 sp dp n) Q) : oG k d pc ls (.inl c0 :: .inl b :: .inr (k1, i1) :: .inl a :: .inr (k0, i0) :: st) M Q := by
  intro A p l e R s m args below meth c E H locs la cs sl Z C hE hR hS hP hlv h1 h2 h3
  obtain ⟨h4, rfl⟩ := oFt_dec (n := 2) hf rfl C.2.2.2.2.2.2.2.2.2.2.2.2
  have hov := C.2.2.2.2.2.2.2.2.1.2.2.2.2.2.2.2.1
  have hk0 := oKD_lt h0
  have hk1 := oKD_lt h1k
  have hi0 : i0 < oCnt k0 := h1 (.inr (k0, i0)) (by simp)
  have hi1 : i1 < oCnt k1 := h1 (.inr (k1, i1)) (by simp)
  obtain ⟨q0, hq0⟩ := oPK_at hk0 hi0
  obtain ⟨q1, hq1⟩ := oPK_at hk1 hi1
  have hw0 := oWS_at (E := E) (M := M) hq0
  have hw1 := oWS_at (E := E) (M := M) hq1
  rw [oEnt_arr h0] at hw0
  rw [oEnt_arr h1k] at hw1
  have b0 := (oKD_arr h0).1
  have b1 := (oKD_arr h1k).1
  subst ha
  subst hb
  subst hc
  have cl : ∀ z : Nat, z ≤ 2000 → (nI z).toNatClampNeg = z := fun z hz => nI_clamp (by omega)
  have hts := C.2.2.2.2.2.2.1
  have hlink := List.all_eq_true.mp oAcL_ok _ hl
  simp only [decide_eq_true_eq] at hlink
  have hD : va_D A (oWS E M) := (oWS_D C.2.2.2.2.2.2.2.2.2.2.1).weaken (fun _ q _ h => C.2.2.2.2.2.2.2.2.2.2.2.1 q.1 h)
  simp only [List.map_cons]
  show W p l e R s m args below meth c H locs cs sl Z (F0 m pc la (.int (nI n) :: .int (nI dp) :: oRfv E k1 i1 :: .int (nI sp) :: oRfv E k0 i0 :: _))
  rw [oRfv_ref hk0, oRfv_ref hk1]
  refine va_copyi (ty := .int) (D := E.1) C.1 C.2.1 (by rw [C.2.2.1]; exact hlv.1.symm) C.2.2.2.2.2.1 (hts _ (oGT_of (List.mem_of_getElem? hlink) rfl)) (hts _ oW_acn) (hts _ oW_acs) (hts _ oW_aci) C.2.2.2.2.2.2.2.1 hP.1 hD hS q0 q1 0 0 hw0 hw1 rfl rfl rfl (nI_pos (by omega)) (nI_pos (by omega)) (nI_pos (by omega)) (by rw [cl sp (by omega), cl n (by omega)]; exact hs0) (by rw [cl dp (by omega), cl n (by omega)]; exact hs1) (fun i hi => rfl) (by omega) ?_ h4 (fun H1 locs1 hP1 hD1 hS1 => ?_)
  · rw [oSum_le hov]
    have := Nat.le_of_ble_eq_true hst
    have hnf : nativeFrameWords "java/lang/System" "arraycopy" 5 + 11 ≤ 70 := by decide +kernel
    omega
  · rw [cl sp (by omega), cl dp (by omega), cl n (by omega), ← oCp_at, ← oEnt_arr h1k, oWS_set hq1 (fun k' i' hne => oCp_ne hne)] at hP1
    refine kk A p l e R s m args below meth c E H1 locs1 la cs sl Z C hE hR hS1 ⟨hP1, ?_⟩ hlv (fun v hv => h1 v (by simp [hv])) h2 h3
    have e : ∀ i', oCp M k0 i0 k1 i1 sp dp n K_SCR i' = M K_SCR i' := fun i' => oCp_ne (fun q => by have := q.1; unfold oNK at hk1; unfold K_SCR at this; omega)
    have hsc := hP.2
    unfold oScr at hsc ⊢
    rw [e, e]
    exact hsc
