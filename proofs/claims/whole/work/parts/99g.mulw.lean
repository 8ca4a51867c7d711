/-! ===== the library's multianewarray as a row ===== -/
theorem yOuter (cA : ClassId) (N h0 : Nat) : Jvm.Free.Multi.outerC cA N h0 N = arrV cA N (fun j => .ref (h0 + 1 + j)) := by
  obtain ⟨o1, o2, o3⟩ := Jvm.Free.Multi.outerC_facts cA N h0 N
  have os : ∀ j, j < N → (Jvm.Free.Multi.outerC cA N h0 N).slots[j]? = some (.ref (h0 + 1 + j)) := fun j hj => by rw [Jvm.Free.Multi.outerC_slot cA N h0 N j hj, if_pos hj]
  generalize Jvm.Free.Multi.outerC cA N h0 N = x at o1 o2 o3 os
  have hs : x.slots = (arrV cA N (fun j => .ref (h0 + 1 + j))).slots := by
    apply Array.ext_getElem?
    intro j
    by_cases hj : j < N
    · rw [os j hj, arrV_read _ _ hj]
    · rw [Array.getElem?_eq_none (by rw [o3]; omega), Array.getElem?_eq_none (by rw [arrV_size]; omega)]
  cases x
  unfold arrV at hs ⊢
  dsimp only at o1 o2 hs
  subst o1
  subst o2
  subst hs
  rfl
theorem yMul_row : yMulW := by
  intro p l e R s m args below meth c Z H locs cs sl pc idx cc own la rest n b hx hb hown w1 w2 w3 hdg n1 k1 n2 k2 hc hsl kk
  intro T hT X
  subst hT
  obtain ⟨vm₁, cA, comp, hW, hfA, hfC, hO, hI, X1, st⟩ := X.multianewarray2F hx hown w1 w2 w3 (g := F0 m pc la (.int b :: .int n :: rest)) rfl (by rw [hb]; exact hdg) rfl n1 k1 (by omega) (by show _ * 4 ≤ _; omega) (by omega) rfl rfl hc (by omega)
  obtain ⟨f1, f2, f3, f4⟩ := Jvm.Free.Multi.fill_facts (T.setVm vm₁) cA comp n.toNatClampNeg b.toNatClampNeg (defaultValue .int) n.toNatClampNeg
  have fo := fun (a : Addr) (ha : a < T.heap.size) => Jvm.Free.Multi.fill_old (T.setVm vm₁) cA comp n.toNatClampNeg b.toNatClampNeg (defaultValue .int) (a := a) ha n.toNatClampNeg
  have fi := fun (j : Nat) (hj : j < n.toNatClampNeg) => Jvm.Free.Multi.fill_inner (T.setVm vm₁) cA comp n.toNatClampNeg b.toNatClampNeg (defaultValue .int) n.toNatClampNeg j hj
  have f1' : (Jvm.Free.Multi.fill (T.setVm vm₁) cA comp n.toNatClampNeg b.toNatClampNeg (defaultValue .int) n.toNatClampNeg).heap.size = T.heap.size + (1 + n.toNatClampNeg) := by rw [f1]; show T.heap.size + 1 + _ = _; omega
  have X2 : Stand p l e R s m args below meth c (Jvm.Free.Multi.fill (T.setVm vm₁) cA comp n.toNatClampNeg b.toNatClampNeg (defaultValue .int) n.toNatClampNeg) locs (cs + (1 + n.toNatClampNeg)) (sl + (n.toNatClampNeg + n.toNatClampNeg * b.toNatClampNeg)) := stand_widen X1 (by omega) (by omega)
  obtain ⟨t, a1, b1⟩ := kk _ cA comp hfA hfC f1' fo (f2.trans (congrArg some (yOuter cA n.toNatClampNeg T.heap.size))) (fun j hj => (fi j hj).trans (congrArg some (arrV_new comp b.toNatClampNeg (.int 0)))) _ rfl X2
  exact ⟨t, st t a1, b1⟩
theorem yMul_ok : yMulP := yMul_of yMul_row
