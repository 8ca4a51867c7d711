/-! ===== an array of arrays, all at once ===== -/
theorem yR_apps {E : oE} {h : Nat} {w v : List yC} {H H1 : Heap} (hR : yR E h w H) (z1 : H1.size = H.size + v.length) (o1 : ∀ q : Nat, q < H.size → H1[q]? = H[q]?) (hx : ∀ (j : Nat) (x : yC), v[j]? = some x → va_at E.1 vwCl (H.size + j, yEnt E h x) H1) : yR E h (w ++ v) H1 := by
  obtain ⟨hz, hc⟩ := hR
  refine ⟨by rw [z1, hz, List.length_append]; omega, fun o y hy => ?_⟩
  by_cases ho : o < w.length
  · rw [List.getElem?_append_left ho] at hy
    exact (hc o y hy).kept (o1 (h + o) (by omega))
  · rw [List.getElem?_append_right (by omega)] at hy
    have := hx _ _ hy
    rw [show H.size + (o - w.length) = h + o by omega] at this
    exact this
theorem yArrV_congr {cI : ClassId} {N : Nat} {f g : Nat → Value} (h : ∀ j, j < N → f j = g j) : arrV cI N f = arrV cI N g := by
  unfold arrV
  have : (Array.ofFn (n := N) fun j => f j.val) = Array.ofFn (n := N) fun j => g j.val := by
    congr 1
    funext j
    exact h j.val j.isLt
  rw [this]
theorem yRf_range (o : Nat) : ∀ (n a j : Nat), a ≤ j → j < a + n → yRf ((List.range' a n).map (fun j => (j, o + j))) j = some (o + j)
  | 0, a, j, h1, h2 => by omega
  | n + 1, a, j, h1, h2 => by
    rw [List.range'_succ, List.map_cons]
    unfold yRf
    by_cases hj : j = a
    · subst hj
      rw [Nat.beq_refl]
      rfl
    · rw [show Nat.beq j a = false from Bool.eq_false_iff.mpr (fun z => hj (Nat.eq_of_beq_eq_true z))]
      exact yRf_range o n (a + 1) j (by omega) (by omega)
theorem yRf_mul {o n j : Nat} (hj : j < n) : yRf ((List.range n).map (fun j => (j, o + 2 + j))) j = some (o + 2 + j) := by
  rw [List.range_eq_range']
  exact yRf_range (o + 2) n 0 j (Nat.zero_le _) (by omega)
theorem ySl_rep (x : yC) : ∀ n : Nat, ySl (List.replicate n x) = n * ySz x
  | 0 => by rw [Nat.zero_mul]; rfl
  | n + 1 => by
    rw [List.replicate_succ]
    show ySz x + ySl (List.replicate n x) = _
    rw [ySl_rep x n, Nat.succ_mul, Nat.add_comm]
theorem yMul_len (o n b : Nat) : (yMul o n b).length = 1 + n := by
  unfold yMul
  rw [List.length_cons, List.length_replicate, Nat.add_comm]
theorem yMul_sl (o n b : Nat) : ySl (yMul o n b) = n + n * b := by
  unfold yMul
  show n + ySl (List.replicate n _) = _
  rw [ySl_rep]
  rfl
/-- the row of the machine that a step of multianewarray needs -/
def yMulW : Prop := ∀ {p : Program} {l : Launch} {e : Env} {R : Room} {s : State} {m : MethodId} {args : Array Value} {below : List Frame} {meth : Method} {c : Code} {Z : State → Prop} {H : Heap} {locs : List Loc} {cs sl pc idx : Nat} {cc : ByteArray} {own : String} {la : Array Slot} {rest : List Value} {n b : Int32},
  p.tables.exec = Jvm.exec → c.code = cc → s.vm.findClass own = some m.cls → (Cond.classLink own idx ("[" ++ (FieldType.array .int).toString)).before args s = true → (Cond.arrayOver (.array .int)).before args s = true → (Cond.arrayClass .int).before args s = true → decode cc pc = .ok (.multianewarray idx 2, 4) → ¬ n < 0 → ¬ b < 0 → n.toNatClampNeg ≤ 2000 → b.toNatClampNeg ≤ 2000 → cs + (1 + n.toNatClampNeg) ≤ R.cells → sl + (n.toNatClampNeg + n.toNatClampNeg * b.toNatClampNeg) ≤ R.slots →
  (∀ (H1 : Heap) (cA comp : ClassId), s.vm.findClass ("[" ++ (FieldType.array .int).toString) = some cA → s.vm.findClass (FieldType.array .int).toString = some comp → H1.size = H.size + (1 + n.toNatClampNeg) → (∀ q : Nat, q < H.size → H1[q]? = H[q]?) → H1[H.size]? = some (arrV cA n.toNatClampNeg (fun j => .ref (H.size + 1 + j))) → (∀ j, j < n.toNatClampNeg → H1[H.size + 1 + j]? = some (arrV comp b.toNatClampNeg (fun _ => .int 0))) →
    W p l e R s m args below meth c H1 locs (cs + (1 + n.toNatClampNeg)) (sl + (n.toNatClampNeg + n.toNatClampNeg * b.toNatClampNeg)) Z (F0 m (pc + 4) la (.ref H.size :: rest))) →
  W p l e R s m args below meth c H locs cs sl Z (F0 m pc la (.int b :: .int n :: rest))
theorem yMul_of (hW : yMulW) : yMulP := by
  intro p l e R s m args below meth c Z E h B S k pc nx tg ls st w t idx C hf hs hrm kk
  obtain ⟨hx, hb, -, hown, hts, hK, -, hAO, hD, -⟩ := C
  obtain ⟨h4, rfl⟩ := oFt_dec (n := 3) hf rfl hD
  unfold yS_multi at hs
  split at hs
  · rename_i b n r
    cases hbn : (Nat.beq (oMO k) 0 && Nat.beq idx 9 && yNn n && yNn b) with
    | false => rw [hbn] at hs; cases hs
    | true =>
      rw [hbn] at hs
      cases hs
      rw [Bool.and_eq_true, Bool.and_eq_true, Bool.and_eq_true] at hbn
      obtain ⟨⟨⟨b1, b2⟩, b3⟩, b4⟩ := hbn
      have ho : oMO k = 0 := Nat.eq_of_beq_eq_true b1
      have hi : idx = 9 := Nat.eq_of_beq_eq_true b2
      subst hi
      obtain ⟨n1, n2⟩ := yNn_ok b3
      obtain ⟨k1, k2⟩ := yNn_ok b4
      intro H locs la cs sl hR hS hcs hsl hv hlen
      dsimp only at hR hcs hsl
      obtain ⟨r1, r2⟩ := hrm
      dsimp only at r1 r2
      rw [List.length_append, yMul_len] at r1
      rw [ySl_app, yMul_sl] at r2
      refine hW hx hb hown (by rw [ho]; exact hts _ yMul_link) hAO.2 (hts _ yArr_int) h4 n1 k1 n2 k2 (by omega) (by omega) (fun H1 cA comp q1 q2 z1 o1 e1 e2 => ?_)
      have ec : cA = ocA E 7 := Option.some.inj (q1.symm.trans (hK.2 7 _ rfl).2)
      have ed : comp = ocA E 0 := Option.some.inj (q2.symm.trans (hK.2 0 _ rfl).2)
      subst ec
      subst ed
      have hz := hR.1
      have key : yR E h (w ++ yMul w.length n.toNatClampNeg b.toNatClampNeg) H1 := by
        refine yR_apps hR (by rw [yMul_len]; exact z1) o1 (fun j x hj => ?_)
        unfold yMul at hj
        cases j with
        | zero =>
          have ex : (.inr (.inr (7, n.toNatClampNeg, (List.range n.toNatClampNeg).map (fun j => (j, w.length + 2 + j)))) : yC) = x := by simpa using hj
          subst ex
          show H1[H.size + 0]? = some (arrV (ocA E 7) n.toNatClampNeg (fun j => va_rf ((yRf ((List.range n.toNatClampNeg).map (fun j => (j, w.length + 2 + j))) j).map (yad E h))))
          rw [Nat.add_zero, e1]
          congr 1
          refine yArrV_congr (fun j hj => ?_)
          rw [yRf_mul hj, show w.length + 2 + j = (w.length + 1 + j) + 1 by omega]
          show Value.ref _ = Value.ref (h + (w.length + 1 + j))
          exact congrArg Value.ref (show H.size + 1 + j = h + (w.length + 1 + j) by omega)
        | succ j =>
          have hj2 : (List.replicate n.toNatClampNeg (.inr (.inl (0, b.toNatClampNeg, [])) : yC))[j]? = some x := by simpa using hj
          rw [List.getElem?_replicate] at hj2
          by_cases hjn : j < n.toNatClampNeg
          · rw [if_pos hjn] at hj2
            cases hj2
            show H1[H.size + (j + 1)]? = some (arrV (ocA E 0) b.toNatClampNeg (fun _ => .int 0))
            rw [show H.size + (j + 1) = H.size + 1 + j by omega]
            exact e2 j hjn
          · rw [if_neg hjn] at hj2
            cases hj2
      have k3 := kk H1 locs la (cs + (1 + n.toNatClampNeg)) (sl + (n.toNatClampNeg + n.toNatClampNeg * b.toNatClampNeg)) key (yS_grow hS (by omega) o1) (by dsimp only; rw [List.length_append, yMul_len]; omega) (by dsimp only; rw [ySl_app, yMul_sl]; omega) hv hlen
      rw [hz]
      exact k3
  · cases hs
