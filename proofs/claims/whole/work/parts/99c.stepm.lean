/-! ===== steps that make or write ===== -/
section YSTEP
variable {p : Program} {l : Launch} {e : Env} {R : Room} {s : State} {m : MethodId} {args : Array Value} {below : List Frame} {meth : Method} {c : Code} {Z : State → Prop} {E : oE} {h B S k pc nx tg : Nat} {ls : List (Option yV)} {st : List yV} {w : List yC} {t : yT}
def yRm (B S : Nat) (R : Room) (w : List yC) : Prop := w.length ≤ B + R.cells ∧ ySl w ≤ S + R.slots
theorem yDf_len (ci : Nat) : (yDf ci).length = (oCl ci).2.2 := by
  unfold yDf
  rw [List.length_map, List.length_range]
theorem yDf_at {ci j : Nat} (h1 : ci < 11) (hj : j < (oCl ci).2.2) : defaultValue (oTy ci j) = vp_V ((yDf ci).map (ycv E h)) j := by
  unfold vp_V yDf
  rw [List.getD_eq_getElem?_getD, List.getElem?_map, List.getElem?_map, List.getElem?_range hj]
  exact (yDv_ok (yOkT_all ci h1 j hj)).symm
theorem y_new {idx : Nat} (C : yX k E p s m args meth c) (hf : oFt k pc = some (.new idx, nx, tg)) (hs : yS_new k nx idx ls st w = some t) (hrm : yRm B S R t.2.2.2) (kk : yG k E h B S s.heap m (fun H locs cs sl g => W p l e R s m args below meth c H locs cs sl Z g) t) : yG k E h B S s.heap m (fun H locs cs sl g => W p l e R s m args below meth c H locs cs sl Z g) (pc, ls, st, w) := by
  obtain ⟨hx, hb, -, hown, hts, hK, -, -, hD, -⟩ := C
  obtain ⟨h4, rfl⟩ := oFt_dec (n := 2) hf rfl hD
  unfold yS_new at hs
  split at hs
  · rename_i q hq
    cases hs
    obtain ⟨ci, z⟩ := q
    obtain ⟨g1, g2, g3, g4⟩ := yNew_ok hq
    intro H locs la cs sl hR hS hcs hsl hv hlen
    have hKn := hK.1 ci _ (oCl_at g1)
    obtain ⟨r1, r2⟩ := hrm
    dsimp only at r1 r2 hcs hsl
    rw [List.length_append] at r1
    rw [ySl_app] at r2
    have e1 : ySl [(.inl (ci, yDf ci) : yC)] = (oCl ci).2.2 := (Nat.add_zero _).trans (yDf_len ci)
    rw [e1] at r2
    have e2 : [(.inl (ci, yDf ci) : yC)].length = 1 := rfl
    rw [e2] at r1
    refine W.newcK hx hb hown (hts _ g2) (hts _ g3) (hts _ g4) rfl h4 (by omega) (by omega) hKn.2.1 rfl fun H1 kC hkC e3 z1 o1 => ?_
    have k1 := kk H1 locs la (cs + 1) (sl + (oCl ci).2.2) (yR_app hR z1 o1 ⟨_, oCl_at g1, (u_born (oTy ci) hts (oCl_ws g1) hKn hkC e3 (oCl_ty ci g1)).to (fun j hj => yDf_at g1 hj)⟩) (yS_grow hS (by omega) o1) (by dsimp only; rw [List.length_append, e2]; omega) (by dsimp only; rw [ySl_app, e1]; omega) hv hlen
    have hz := hR.1
    dsimp only at hz
    rw [hz]
    exact k1
  · cases hs
theorem yNn_ok {n : Int32} (hn : yNn n = true) : ¬ n < 0 ∧ n.toNatClampNeg ≤ 2000 := by
  unfold yNn at hn
  rw [Bool.and_eq_true] at hn
  exact ⟨by simpa using hn.1, Nat.le_of_ble_eq_true hn.2⟩
theorem yAt_ok {ty : ArrayType} {j : Nat} (hj : yAt ty = some j) : Cond.arrayClass (newarray.typeOf ty) ∈ oGT ∧ (otys E)[j]? = some (ocA E j, newarray.typeOf ty) ∧ defaultValue (newarray.typeOf ty) = .int 0 ∧ componentBytes (newarray.typeOf ty) ≤ 8 ∧ ∀ (U : State) (cA : ClassId), va_RA U cA (newarray.typeOf ty) → U.vm.findClass ("[" ++ (newarray.typeOf ty).toString) = some cA := by
  cases ty <;> first | (cases hj; done) | skip
  · cases hj; exact ⟨yArr_boolean, rfl, rfl, by decide, fun _ _ h => h⟩
  · cases hj; exact ⟨yArr_char, rfl, rfl, by decide, fun _ _ h => h⟩
  · cases hj; exact ⟨yArr_int, rfl, rfl, by decide, fun _ _ h => h⟩
theorem y_newa {ty : ArrayType} (C : yX k E p s m args meth c) (hf : oFt k pc = some (.newarray ty, nx, tg)) (hs : yS_newa nx ty ls st w = some t) (hrm : yRm B S R t.2.2.2) (kk : yG k E h B S s.heap m (fun H locs cs sl g => W p l e R s m args below meth c H locs cs sl Z g) t) : yG k E h B S s.heap m (fun H locs cs sl g => W p l e R s m args below meth c H locs cs sl Z g) (pc, ls, st, w) := by
  obtain ⟨hx, hb, -, hown, hts, hK, -, -, hD, -⟩ := C
  obtain ⟨h4, rfl⟩ := oFt_dec (n := 1) hf rfl hD
  unfold yS_newa at hs
  split at hs
  · rename_i j n r hj
    cases hbn : yNn n with
    | false => rw [hbn] at hs; cases hs
    | true =>
      rw [hbn] at hs
      cases hs
      obtain ⟨n1, n2⟩ := yNn_ok hbn
      obtain ⟨g1, g2, g3, g4, g5⟩ := yAt_ok (E := E) hj
      intro H locs la cs sl hR hS hcs hsl hv hlen
      obtain ⟨r1, r2⟩ := hrm
      dsimp only at r1 r2 hcs hsl
      rw [List.length_append] at r1
      rw [ySl_app] at r2
      have e1 : ySl [(.inr (.inl (j, n.toNatClampNeg, [])) : yC)] = n.toNatClampNeg := Nat.add_zero _
      rw [e1] at r2
      have e2 : [(.inr (.inl (j, n.toNatClampNeg, [])) : yC)].length = 1 := rfl
      rw [e2] at r1
      have hbytes : n.toNatClampNeg * componentBytes (newarray.typeOf ty) ≤ 536870912 := Nat.le_trans (Nat.mul_le_mul n2 g4) (by decide)
      refine va_newaK hx hb (hts _ g1) rfl h4 rfl n1 rfl hbytes (by omega) (by omega) rfl fun H1 cA e3 z1 o1 hAr hNm => ?_
      have ec : cA = ocA E j := Option.some.inj (hNm.symm.trans (g5 s _ (hK.2 j _ g2).2))
      subst ec
      have k1 := kk H1 locs la (cs + 1) (sl + n.toNatClampNeg) (yR_app hR z1 o1 (by
        show H1[H.size]? = some (vp_cell _ _)
        rw [e3, g3]
        rfl)) (yS_grow hS (by omega) o1) (by dsimp only; rw [List.length_append, e2]; omega) (by dsimp only; rw [ySl_app, e1]; omega) hv hlen
      have hz := hR.1
      dsimp only at hz
      rw [hz]
      exact k1
  · cases hs
/-- a cell more: what lies where -/
theorem yPushed (H : Heap) (x : Cell) : (H.push x).size = H.size + 1 ∧ (H.push x)[H.size]? = some x ∧ ∀ q : Nat, q < H.size → (H.push x)[q]? = H[q]? :=
  ⟨Array.size_push .., Array.getElem?_push_size, fun _ hq => Array.getElem?_push_lt hq |>.trans (Array.getElem?_eq_getElem hq).symm⟩
theorem y_anew {idx : Nat} (C : yX k E p s m args meth c) (hf : oFt k pc = some (.anewarray idx, nx, tg)) (hs : yS_anew k nx idx ls st w = some t) (hrm : yRm B S R t.2.2.2) (kk : yG k E h B S s.heap m (fun H locs cs sl g => W p l e R s m args below meth c H locs cs sl Z g) t) : yG k E h B S s.heap m (fun H locs cs sl g => W p l e R s m args below meth c H locs cs sl Z g) (pc, ls, st, w) := by
  obtain ⟨hx, hb, -, hown, hts, hK, -, hAO, hD, -⟩ := C
  obtain ⟨h4, rfl⟩ := oFt_dec (n := 2) hf rfl hD
  unfold yS_anew at hs
  split at hs
  · rename_i q n r hj
    cases hbn : yNn n with
    | false => rw [hbn] at hs; cases hs
    | true =>
      rw [hbn] at hs
      cases hs
      obtain ⟨n1, n2⟩ := yNn_ok hbn
      obtain ⟨ci, j⟩ := q
      obtain ⟨g1, g2, g3, g4⟩ := yANew_ok hj
      obtain ⟨-, g5⟩ := yEl_otys (E := E) g3
      intro H locs la cs sl hR hS hcs hsl hv hlen
      obtain ⟨r1, r2⟩ := hrm
      dsimp only at r1 r2 hcs hsl
      rw [List.length_append] at r1
      rw [ySl_app] at r2
      have e1 : ySl [(.inr (.inr (j, n.toNatClampNeg, [])) : yC)] = n.toNatClampNeg := Nat.add_zero _
      rw [e1] at r2
      have e2 : [(.inr (.inr (j, n.toNatClampNeg, [])) : yC)].length = 1 := rfl
      rw [e2] at r1
      refine W.anew hx hb hown (hts _ g2) (va_AO.use (g4 s hAO)) rfl h4 rfl n1 (by omega) (by omega) (by omega) fun cA kA comp f1 f2 f3 f4 => ?_
      obtain ⟨-, -, -, -, -, q4⟩ := (hK.2 j _ g5).2
      have ec : cA = ocA E j := Option.some.inj (f1.symm.trans q4)
      subst ec
      obtain ⟨z1, e3, o1⟩ := yPushed H ({ cls := ocA E j, slots := Array.replicate n.toNatClampNeg .null, vm := .none } : Cell)
      have k1 := kk _ locs la (cs + 1) (sl + n.toNatClampNeg) (yR_app hR z1 o1 (by
        show _ = some (vp_cell _ _)
        rw [e3, arrV_new]
        rfl)) (yS_grow hS (by omega) o1) (by dsimp only; rw [List.length_append, e2]; omega) (by dsimp only; rw [ySl_app, e1]; omega) hv hlen
      have hz := hR.1
      dsimp only at hz
      rw [hz]
      exact k1
  · cases hs
theorem yS_put {h o k : Nat} {H0 H H1 : Heap} {locs : List Loc} (hS : va_S (fun q => h ≤ q) H0 H locs) (z1 : H1.size = H.size) (o1 : ∀ q : Nat, q ≠ h + o → H1[q]? = H[q]?) : va_S (fun q => h ≤ q) H0 H1 (locs ++ [⟨h + o, k⟩]) := hS.put z1 o1 (Nat.le_add_right h o)
theorem y_iast (C : yX k E p s m args meth c) (hf : oFt k pc = some (.iastore, nx, tg)) (hs : yS_iast nx ls st w = some t) (kk : yG k E h B S s.heap m (fun H locs cs sl g => W p l e R s m args below meth c H locs cs sl Z g) t) : yG k E h B S s.heap m (fun H locs cs sl g => W p l e R s m args below meth c H locs cs sl Z g) (pc, ls, st, w) := by
  obtain ⟨hx, hb, -, hown, hts, hK, -, hAO, hD, -⟩ := C
  obtain ⟨h4, rfl⟩ := oFt_dec (n := 0) hf rfl hD
  unfold yS_iast at hs
  split at hs
  · rename_i x i o r
    split at hs
    · rename_i a hw
      cases hbn : (Nat.beq a.1 0 && !(decide (i < 0)) && Nat.blt i.toNatClampNeg a.2.1) with
      | false => rw [hbn] at hs; cases hs
      | true =>
        rw [hbn] at hs
        cases hs
        rw [Bool.and_eq_true, Bool.and_eq_true] at hbn
        obtain ⟨ty, n, ws⟩ := a
        have ht : ty = 0 := Nat.eq_of_beq_eq_true hbn.1.1
        subst ht
        have hi0 : ¬ i < 0 := by simpa using hbn.1.2
        have hin : i.toNatClampNeg < n := Nat.le_of_ble_eq_true hbn.2
        intro H locs la cs sl hR hS hcs hsl hv hlen
        have hat : H[h + o]? = some (vp_cell (ocA E 0) (n, .inl (yIn ws))) := hR.2 o _ hw
        refine W.iast hx hb hat ((hK.2 0 _ rfl).1 n (fun j => .int (yIn ws j))) (fun q => by cases q) (by show ¬ (i < 0 ∨ (arrV _ _ _).slots.size ≤ _); rw [arrV_size]; exact fun z => z.elim hi0 (fun z => Nat.not_le.mpr hin z)) rfl rfl h4 fun H1 e3 z1 o1 => ?_
        refine kk H1 _ la cs sl (yR_set hR hw z1 o1 ?_) (yS_put hS z1 o1) (by dsimp only; rw [List.length_set]; exact hcs) (hsl.trans (ySl_set w o _ (.inr (.inl (0, n, (i.toNatClampNeg, x) :: ws))) hw rfl).symm) hv hlen
        show H1[h + o]? = some (arrV (ocA E 0) n (fun q => Value.int (cond (Nat.beq q i.toNatClampNeg) x (yIn ws q))))
        rw [e3, vp_cell_i, arrV_store]
        congr 2
        funext q
        unfold updV
        by_cases hq : q = i.toNatClampNeg
        · rw [if_pos hq, hq, Nat.beq_refl]; rfl
        · rw [if_neg hq, show Nat.beq q i.toNatClampNeg = false from Bool.eq_false_iff.mpr (fun z => hq (Nat.eq_of_beq_eq_true z))]; rfl
    · cases hs
  · cases hs
theorem y_cast (C : yX k E p s m args meth c) (hf : oFt k pc = some (.castore, nx, tg)) (hs : yS_cast nx ls st w = some t) (kk : yG k E h B S s.heap m (fun H locs cs sl g => W p l e R s m args below meth c H locs cs sl Z g) t) : yG k E h B S s.heap m (fun H locs cs sl g => W p l e R s m args below meth c H locs cs sl Z g) (pc, ls, st, w) := by
  obtain ⟨hx, hb, -, hown, hts, hK, -, hAO, hD, -⟩ := C
  obtain ⟨h4, rfl⟩ := oFt_dec (n := 0) hf rfl hD
  unfold yS_cast at hs
  split at hs
  · rename_i x i o r
    split at hs
    · rename_i a hw
      cases hbn : (Nat.beq a.1 2 && !(decide (i < 0)) && Nat.blt i.toNatClampNeg a.2.1) with
      | false => rw [hbn] at hs; cases hs
      | true =>
        rw [hbn] at hs
        cases hs
        rw [Bool.and_eq_true, Bool.and_eq_true] at hbn
        obtain ⟨ty, n, ws⟩ := a
        have ht : ty = 2 := Nat.eq_of_beq_eq_true hbn.1.1
        subst ht
        have hi0 : ¬ i < 0 := by simpa using hbn.1.2
        have hin : i.toNatClampNeg < n := Nat.le_of_ble_eq_true hbn.2
        intro H locs la cs sl hR hS hcs hsl hv hlen
        have hat : H[h + o]? = some (vp_cell (ocA E 2) (n, .inl (yIn ws))) := hR.2 o _ hw
        refine W.cast hx hb hat ((hK.2 2 _ rfl).1 n (fun j => .int (yIn ws j))) (fun q => by cases q) (by show ¬ (i < 0 ∨ (arrV _ _ _).slots.size ≤ _); rw [arrV_size]; exact fun z => z.elim hi0 (fun z => Nat.not_le.mpr hin z)) rfl rfl h4 fun H1 e3 z1 o1 => ?_
        refine kk H1 _ la cs sl (yR_set hR hw z1 o1 ?_) (yS_put hS z1 o1) (by dsimp only; rw [List.length_set]; exact hcs) (hsl.trans (ySl_set w o _ (.inr (.inl (2, n, (i.toNatClampNeg, vp_nar .char x) :: ws))) hw rfl).symm) hv hlen
        show H1[h + o]? = some (arrV (ocA E 2) n (fun q => Value.int (cond (Nat.beq q i.toNatClampNeg) (vp_nar .char x) (yIn ws q))))
        rw [e3, vp_cell_i, arrV_store]
        congr 2
        funext q
        unfold updV
        by_cases hq : q = i.toNatClampNeg
        · rw [if_pos hq, hq, Nat.beq_refl]; rfl
        · rw [if_neg hq, show Nat.beq q i.toNatClampNeg = false from Bool.eq_false_iff.mpr (fun z => hq (Nat.eq_of_beq_eq_true z))]; rfl
    · cases hs
  · cases hs
theorem y_aast (C : yX k E p s m args meth c) (hf : oFt k pc = some (.aastore, nx, tg)) (hs : yS_aast nx ls st w = some t) (kk : yG k E h B S s.heap m (fun H locs cs sl g => W p l e R s m args below meth c H locs cs sl Z g) t) : yG k E h B S s.heap m (fun H locs cs sl g => W p l e R s m args below meth c H locs cs sl Z g) (pc, ls, st, w) := by
  obtain ⟨hx, hb, -, hown, hts, hK, -, hAO, hD, -⟩ := C
  obtain ⟨h4, rfl⟩ := oFt_dec (n := 0) hf rfl hD
  unfold yS_aast at hs
  split at hs
  · rename_i v i o r
    split at hs
    · rename_i a x hw hwv
      cases hbn : (decide (yEl a.1 = some x.1) && !(decide (i < 0)) && Nat.blt i.toNatClampNeg a.2.1) with
      | false => rw [hbn] at hs; cases hs
      | true =>
        rw [hbn] at hs
        cases hs
        rw [Bool.and_eq_true, Bool.and_eq_true] at hbn
        obtain ⟨ty, n, ws⟩ := a
        obtain ⟨ci, fs⟩ := x
        obtain ⟨q1, q2⟩ := yEl_otys (E := E) (of_decide_eq_true hbn.1.1)
        have hi0 : ¬ i < 0 := by simpa using hbn.1.2
        have hin : i.toNatClampNeg < n := Nat.le_of_ble_eq_true hbn.2
        intro H locs la cs sl hR hS hcs hsl hv hlen
        have hat : H[h + o]? = some (vp_cell (ocA E ty) (n, .inr (.inr (.inr (.inr (fun j => (yRf ws j).map (yad E h))))))) := hR.2 o _ hw
        obtain ⟨r', hr', cellV, g1, g2, g3, -⟩ := hR.2 v _ hwv
        have hcls := (hK.1 ci _ (oCl_at q1)).2
        obtain ⟨kA, comp, k1, k2, k3, -⟩ := (hK.2 ty _ q2).2
        have hcomp : comp = E.1.1 ci := Option.some.inj (k3.symm.trans hcls.1)
        subst hcomp
        obtain ⟨kC, hkC, -⟩ := hcls.2
        dsimp only at g2
        refine W.aast hx hb hat (fun q h => by cases h) (fun h => by cases h) k1 k2 rfl hkC ⟨hi0, by show _ < (arrV _ _ _).slots.size; rw [arrV_size]; exact hin⟩ g1 (fun q h => by rw [g3] at h; cases h) (by rw [g2]; exact hkC) (by rw [g2]; exact va_assign hcls) rfl rfl h4 fun H1 e3 z1 o1 => ?_
        refine kk H1 _ la cs sl (yR_set hR hw z1 o1 ?_) (yS_put hS z1 o1) (by dsimp only; rw [List.length_set]; exact hcs) (hsl.trans (ySl_set w o _ (.inr (.inr (ty, n, (i.toNatClampNeg, v + 1) :: ws))) hw rfl).symm) hv hlen
        show H1[h + o]? = some (arrV (ocA E ty) n (fun q => va_rf ((cond (Nat.beq q i.toNatClampNeg) (some (v + 1)) (yRf ws q)).map (yad E h))))
        rw [e3, vp_cell_q, arrV_store]
        congr 2
        funext q
        unfold updV
        by_cases hq : q = i.toNatClampNeg
        · rw [if_pos hq, hq, Nat.beq_refl]; rfl
        · rw [if_neg hq, show Nat.beq q i.toNatClampNeg = false from Bool.eq_false_iff.mpr (fun z => hq (Nat.eq_of_beq_eq_true z))]; rfl
    · cases hs
  · cases hs
theorem yCl_own : ∀ ci, ci < 11 → ∀ f, f < (oCl ci).2.2 → ((oCl ci).2.1 f).1 = oCN ci := by decide +kernel
theorem y_putf {idx : Nat} (C : yX k E p s m args meth c) (hf : oFt k pc = some (.putfield idx, nx, tg)) (hs : yS_putf k nx idx ls st w = some t) (kk : yG k E h B S s.heap m (fun H locs cs sl g => W p l e R s m args below meth c H locs cs sl Z g) t) : yG k E h B S s.heap m (fun H locs cs sl g => W p l e R s m args below meth c H locs cs sl Z g) (pc, ls, st, w) := by
  obtain ⟨hx, hb, -, hown, hts, hK, -, hAO, hD, hnm⟩ := C
  obtain ⟨h4, rfl⟩ := oFt_dec (n := 2) hf rfl hD
  unfold yS_putf at hs
  split at hs
  · rename_i q v o r hl
    split at hs
    · rename_i x hw
      cases hbn : (Nat.beq x.1 q.1 && Nat.beq (oMO k) q.1 && oIni k && Nat.blt q.2 x.2.length && yFit (oTy q.1 q.2) v) with
      | false => rw [hbn] at hs; cases hs
      | true =>
        rw [hbn] at hs
        cases hs
        rw [Bool.and_eq_true, Bool.and_eq_true, Bool.and_eq_true, Bool.and_eq_true] at hbn
        obtain ⟨⟨⟨⟨b1, b2⟩, b3⟩, b4⟩, b5⟩ := hbn
        obtain ⟨ci, f⟩ := q
        obtain ⟨ci', fs⟩ := x
        have hci : ci' = ci := Nat.eq_of_beq_eq_true b1
        subst hci
        have ho : oMO k = ci' := Nat.eq_of_beq_eq_true b2
        have hlt : f < fs.length := Nat.le_of_ble_eq_true b4
        obtain ⟨g1, g2, g3⟩ := oFL_ok hl
        obtain ⟨hn, hfit⟩ := yFit_ok (E := E) (h := h) b5
        have hd := oCl_ty ci' g1 f g2
        intro H locs la cs sl hR hS hcs hsl hv hlen
        obtain ⟨r', hr', cell, q1, q2, q3, q4⟩ := hR.2 o _ hw
        have hrr : r' = oCl ci' := Option.some.inj (hr'.symm.trans (oCl_at g1))
        subst hrr
        have hc := oCl_at g1
        have hap := va_apart (own := oCN (oMO k)) hts (oCl_ws g1) (oTy ci') (oCl_ty ci' g1) (oCl_nm ci' g1) hK hc
        obtain ⟨hSl, hfc, kC, hkC, hkind⟩ := hK.1 ci' _ hc
        obtain ⟨cf, kf, fi, fd, hi, hsl0⟩ := hSl f g2
        have hst := (u_facts hfc hkC (u_lays hts (oCl_ws g1) g2) hi).1
        have hlay := hts _ (oCl_ws g1 _ (u_in_lay g2))
        unfold u_lay at hlay
        dsimp only at q1 q2 q3 q4
        have fin : ∀ H1 : Heap, H1[h + o]? = some (cell.setSlot fd.slot (ycv E h v)) → H1.size = H.size → (∀ q, q ≠ h + o → H1[q]? = H[q]?) → W p l e R s m args below meth c H1 (locs ++ [⟨h + o, fd.slot⟩]) cs sl Z (F0 m (pc + 3) la (r.map (ycv E h))) := by
          intro H1 e1 z1 o1
          refine kk H1 _ la cs sl (yR_set hR hw z1 o1 ⟨_, hc, ?_⟩) (yS_put hS z1 o1) (by dsimp only; rw [List.length_set]; exact hcs) (hsl.trans (ySl_set w o _ _ hw (by show (fs.set f v).length = fs.length; rw [List.length_set])).symm) hv hlen
          rw [hsl0] at e1
          show t_OB _ _ _ _ _ (vp_V ((fs.set f v).map (ycv E h)))
          rw [List.map_set]
          exact t_OB.to (V := updV (vp_V (fs.map (ycv E h))) f (ycv E h v)) ⟨_, e1, q2, q3, t_set q4 hap g2 (ycv E h v)⟩ (fun j _ => vp_updV_set (by rw [List.length_map]; exact hlt) _ j)
        cases hfin : ((oCl ci').2.1 f).2.2.2 with
        | false =>
          rw [hfin] at hlay
          rw [if_neg (by decide)] at hlay
          have h6 := u_store hfc hkC hkind hlay hi hd hn hfit
          exact W.putK hx hb (f := fd) ⟨hown, hts _ g3, ⟨_, _, _, hi⟩, hst⟩ (by rw [q2]; exact h6) q1 q3 (by rw [hsl0]; exact k2_hasslot (q4 f g2)) rfl rfl h4 fin
        | true =>
          rw [hfin] at hlay
          rw [if_pos rfl] at hlay
          have hcf : m.cls = cf := by
            obtain ⟨_, _, owner, _, _, _, -, -, found, -, -, -, named, -⟩ := Cond.laysFinal_spec hlay
            rw [yCl_own ci' g1 f g2, ← ho, hown] at named
            rw [(Prod.mk.inj (Option.some.inj (hi.symm.trans found))).1]
            exact Option.some.inj named
          have h6 := u_fits hfc hkC hkind (Or.inr hlay) hi hd hn hfit
          exact W.putFinK hx hb hown (hts _ g3) hi hst hcf (hnm b3) (by rw [q2]; exact h6) q1 q3 (by rw [hsl0]; exact k2_hasslot (q4 f g2)) rfl rfl h4 fin
    · cases hs
  · cases hs
end YSTEP
