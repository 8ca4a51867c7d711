/-! ===== a new object, a new array: at the next place ===== -/
theorem yP_app {D : va_G} {h : Nat} {w : List va_E} {x : va_E} {H H1 : Heap} (hP : va_P D vwCl (yAd h w) H) (hz : H.size = h + w.length) (o1 : ∀ q, q < H.size → H1[q]? = H[q]?) (hx : va_at D vwCl (H.size, x) H1) : va_P D vwCl (yAd h (w ++ [x])) H1 := by
  rw [yAd_app]
  refine (hP.kept (fun k q hq => o1 q.1 ((hP k q hq).lt))).app (fun k q hq => ?_)
  have hk : k < 1 := (List.getElem?_eq_some_iff.mp hq).1
  rw [show k = 0 by omega] at hq
  cases hq
  rw [← hz]
  exact hx
theorem yS_grow {h : Nat} {H0 H H1 : Heap} {locs : List Loc} (hS : va_S (fun q => h ≤ q) H0 H locs) (z1 : H1.size = H.size + 1) (o1 : ∀ q, q < H.size → H1[q]? = H[q]?) : va_S (fun q => h ≤ q) H0 H1 locs := ⟨by have := hS.1; omega, fun x h1 h2 => (o1 x (Nat.lt_of_lt_of_le h1 hS.1)).trans (hS.2.1 x h1 h2), hS.2.2⟩
theorem y_new {p : Program} {l : Launch} {e : Env} {R : Room} {s : State} {m : MethodId} {args : Array Value} {below : List Frame} {meth : Method} {c0 : Code} {cc : ByteArray} {H : Heap} {locs : List Loc} {cells slots pc : Nat} {Q : State → Prop} {ls : Array Slot} {rest : List Value} {D : va_G} {h : Nat} {w : List va_E} {tys : List (ClassId × FieldType)}
    (hexec : p.tables.exec = Jvm.exec) (hb : c0.code = cc) {own C : String} {T : u_T} {N ci index : Nat} {Ts : List Cond} (hts : ∀ w ∈ Ts, w.before args s = true) (hin : ∀ w ∈ u_ws C T N, w ∈ Ts) (ty : Nat → FieldType) (hty : ∀ k, k < N → parseFieldDescriptor (T k).2.2.1 = some (ty k)) (hown : s.vm.findClass own = some m.cls) (hcl : (Cond.classLink own index C).before args s = true) (hinst : (Cond.instantiable C N).before args s = true) (hini : (Cond.initialized C).before args s = true)
    (hK : va_K D vwCl tys s) (hP : va_P D vwCl (yAd h w) H) (hz : H.size = h + w.length) (hS : va_S (fun q => h ≤ q) s.heap H locs) (hc : vwCl[ci]? = some (C, T, N)) {fs : List Value} (hfs : ∀ j, j < N → defaultValue (ty j) = vp_V fs j) (hcells : cells + 1 ≤ R.cells) (hslots : slots + N ≤ R.slots) (hdg : decode cc pc = .ok (.new index, 3))
    (kk : ∀ H1 : Heap, va_P D vwCl (yAd h (w ++ [.inr (ci, fs)])) H1 → H1.size = h + (w ++ [(.inr (ci, fs) : va_E)]).length → va_S (fun q => h ≤ q) s.heap H1 locs → W p l e R s m args below meth c0 H1 locs (cells + 1) (slots + N) Q (F0 m (pc + 3) ls (.ref (h + w.length) :: rest))) : W p l e R s m args below meth c0 H locs cells slots Q (F0 m pc ls rest) := by
  have hKn := hK.1 ci _ hc
  refine W.newcK hexec hb hown hcl hinst hini rfl hdg hcells hslots hKn.2.1 rfl fun H1 kC hkC e1 z1 o1 => ?_
  have := kk H1 (yP_app hP hz o1 ⟨_, hc, (u_born ty hts hin hKn hkC e1 hty).to hfs⟩) (by rw [List.length_append]; show H1.size = h + (w.length + 1); omega) (yS_grow hS z1 o1)
  rw [← hz] at this
  exact this
theorem y_newa {p : Program} {l : Launch} {e : Env} {R : Room} {s : State} {m : MethodId} {args : Array Value} {below : List Frame} {meth : Method} {c : Code} {cc : ByteArray} {H : Heap} {locs : List Loc} {cells slots pc : Nat} {Q : State → Prop} {ls : Array Slot} {rest : List Value} {D : va_G} {h : Nat} {w : List va_E}
    (hexec : p.tables.exec = Jvm.exec) (hb : c.code = cc) {atype : ArrayType} (harr : (Cond.arrayClass (newarray.typeOf atype)).before args s = true) (cA : ClassId) (hcA : s.vm.findClass ("[" ++ (newarray.typeOf atype).toString) = some cA)
    (hP : va_P D vwCl (yAd h w) H) (hz : H.size = h + w.length) (hS : va_S (fun q => h ≤ q) s.heap H locs) {n : Int32} {N' : Nat} {a0 : vp_A} (ha : vp_cell cA a0 = arrV cA N' (fun _ => defaultValue (newarray.typeOf atype))) (hn : ¬ n < 0) (hN : n.toNatClampNeg = N') (hbytes : N' * componentBytes (newarray.typeOf atype) ≤ 536870912) (hcells : cells + 1 ≤ R.cells) (hslots : slots + N' ≤ R.slots) (hdg : decode cc pc = .ok (.newarray atype, 2))
    (kk : ∀ H1 : Heap, va_P D vwCl (yAd h (w ++ [.inl (cA, a0)])) H1 → H1.size = h + (w ++ [(.inl (cA, a0) : va_E)]).length → va_S (fun q => h ≤ q) s.heap H1 locs → W p l e R s m args below meth c H1 locs (cells + 1) (slots + N') Q (F0 m (pc + 2) ls (.ref (h + w.length) :: rest))) : W p l e R s m args below meth c H locs cells slots Q (F0 m pc ls (.int n :: rest)) := by
  refine va_newaK hexec hb harr rfl hdg rfl hn hN hbytes hcells hslots rfl fun H1 cA' e1 z1 o1 hAr hNm => ?_
  have ec : cA' = cA := Option.some.inj (hNm.symm.trans hcA)
  subst ec
  have := kk H1 (yP_app hP hz o1 (by show H1[H.size]? = some (vp_cell _ _); rw [ha]; exact e1)) (by rw [List.length_append]; show H1.size = h + (w.length + 1); omega) (yS_grow hS z1 o1)
  rw [← hz] at this
  exact this

