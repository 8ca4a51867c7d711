/-! ===== a step of the constructors' machine is the machine's ===== -/
def yX (k : Nat) (E : oE) (p : Program) (s : State) (m : MethodId) (args : Array Value) (meth : Method) (c : Code) : Prop :=
  p.tables.exec = Jvm.exec ∧ c.code = oMC k ∧ c.maxLocals = oML k ∧ s.vm.findClass (oCN (oMO k)) = some m.cls ∧ (∀ w ∈ oGT, w.before args s = true) ∧ va_K E.1 vwCl (otys E) s ∧ (∀ w ∈ oNW, va_Nw w s) ∧ yAO s ∧ oDec k ∧ (oIni k = true → meth.name = "<init>")
def yG (k : Nat) (E : oE) (h B S : Nat) (H0 : Heap) (m : MethodId) (WW : Heap → List Loc → Nat → Nat → JFrame → Prop) (t : yT) : Prop :=
  ∀ (H : Heap) (locs : List Loc) (la : Array Slot) (cs sl : Nat), yR E h t.2.2.2 H → va_S (fun q => h ≤ q) H0 H locs → cs + B = t.2.2.2.length → sl + S = ySl t.2.2.2 → lv_has la (oML k) (yLs E h t.2.1) → t.2.1.length = oML k → WW H locs cs sl (F0 m t.1 la (t.2.2.1.map (ycv E h)))
section YSTEP
variable {p : Program} {l : Launch} {e : Env} {R : Room} {s : State} {m : MethodId} {args : Array Value} {below : List Frame} {meth : Method} {c : Code} {Z : State → Prop} {E : oE} {h B S k pc nx tg : Nat} {ls : List (Option yV)} {st : List yV} {w : List yC} {t : yT}
theorem y_aload {i : Fin 4} (C : yX k E p s m args meth c) (hf : oFt k pc = some (.aload_n i, nx, tg)) (hs : yS_aload nx i.val ls st w = some t) (kk : yG k E h B S s.heap m (fun H locs cs sl g => W p l e R s m args below meth c H locs cs sl Z g) t) : yG k E h B S s.heap m (fun H locs cs sl g => W p l e R s m args below meth c H locs cs sl Z g) (pc, ls, st, w) := by
  obtain ⟨hx, hb, -, hown, hts, hK, -, -, hD, -⟩ := C
  obtain ⟨h4, rfl⟩ := oFt_dec (n := 0) hf rfl hD
  unfold yS_aload at hs
  split at hs
  · rename_i o hl
    cases hs
    intro H locs la cs sl hR hS hcs hsl hv hlen
    exact lv_aload_n hx hb h4 rfl (yLv_get hv (yLd_some hl)) (kk H locs la cs sl hR hS hcs hsl hv hlen)
  · cases hs
theorem y_iload {i : Fin 4} (C : yX k E p s m args meth c) (hf : oFt k pc = some (.iload_n i, nx, tg)) (hs : yS_iload nx i.val ls st w = some t) (kk : yG k E h B S s.heap m (fun H locs cs sl g => W p l e R s m args below meth c H locs cs sl Z g) t) : yG k E h B S s.heap m (fun H locs cs sl g => W p l e R s m args below meth c H locs cs sl Z g) (pc, ls, st, w) := by
  obtain ⟨hx, hb, -, hown, hts, hK, -, -, hD, -⟩ := C
  obtain ⟨h4, rfl⟩ := oFt_dec (n := 0) hf rfl hD
  unfold yS_iload at hs
  split at hs
  · rename_i o hl
    cases hs
    intro H locs la cs sl hR hS hcs hsl hv hlen
    exact lv_iload_n hx hb h4 rfl (yLv_get hv (yLd_some hl)) (kk H locs la cs sl hR hS hcs hsl hv hlen)
  · cases hs
theorem yStore_some {i : Nat} {v : yV} {r : List yV} (hs : yS_store k nx i ls v r w = some t) : i < oML k ∧ t = (nx, ls.set i (some v), r, w) := by
  unfold yS_store at hs
  cases hb : Nat.blt i (oML k) with
  | true => rw [hb] at hs; cases hs; exact ⟨Nat.le_of_ble_eq_true hb, rfl⟩
  | false => rw [hb] at hs; cases hs
theorem y_istore {i : Fin 4} (C : yX k E p s m args meth c) (hf : oFt k pc = some (.istore_n i, nx, tg)) (hs : yS_istore k nx i.val ls st w = some t) (kk : yG k E h B S s.heap m (fun H locs cs sl g => W p l e R s m args below meth c H locs cs sl Z g) t) : yG k E h B S s.heap m (fun H locs cs sl g => W p l e R s m args below meth c H locs cs sl Z g) (pc, ls, st, w) := by
  obtain ⟨hx, hb, -, hown, hts, hK, -, -, hD, -⟩ := C
  obtain ⟨h4, rfl⟩ := oFt_dec (n := 0) hf rfl hD
  unfold yS_istore at hs
  split at hs
  · rename_i x r
    obtain ⟨hi, rfl⟩ := yStore_some hs
    intro H locs la cs sl hR hS hcs hsl hv hlen
    exact lv_istore_n hx hb h4 rfl hv hi rfl (fun la' hv' => kk H locs la' cs sl hR hS hcs hsl (yLv_set hv') ((List.length_set ..).trans hlen))
  · cases hs
theorem y_astore {i : Fin 4} (C : yX k E p s m args meth c) (hf : oFt k pc = some (.astore_n i, nx, tg)) (hs : yS_astore k nx i.val ls st w = some t) (kk : yG k E h B S s.heap m (fun H locs cs sl g => W p l e R s m args below meth c H locs cs sl Z g) t) : yG k E h B S s.heap m (fun H locs cs sl g => W p l e R s m args below meth c H locs cs sl Z g) (pc, ls, st, w) := by
  obtain ⟨hx, hb, -, hown, hts, hK, -, -, hD, -⟩ := C
  obtain ⟨h4, rfl⟩ := oFt_dec (n := 0) hf rfl hD
  unfold yS_astore at hs
  split at hs
  · rename_i x r
    obtain ⟨hi, rfl⟩ := yStore_some hs
    intro H locs la cs sl hR hS hcs hsl hv hlen
    exact lv_astore_n hx hb h4 rfl hv hi rfl (fun la' hv' => kk H locs la' cs sl hR hS hcs hsl (yLv_set hv') ((List.length_set ..).trans hlen))
  · cases hs
theorem y_iinc {i : Nat} {n : Int} (C : yX k E p s m args meth c) (hf : oFt k pc = some (.iinc i n, nx, tg)) (hs : yS_iinc k nx i n ls st w = some t) (kk : yG k E h B S s.heap m (fun H locs cs sl g => W p l e R s m args below meth c H locs cs sl Z g) t) : yG k E h B S s.heap m (fun H locs cs sl g => W p l e R s m args below meth c H locs cs sl Z g) (pc, ls, st, w) := by
  obtain ⟨hx, hb, -, hown, hts, hK, -, -, hD, -⟩ := C
  obtain ⟨h4, rfl⟩ := oFt_dec (n := 2) hf rfl hD
  unfold yS_iinc at hs
  split at hs
  · rename_i x hl
    obtain ⟨hi, rfl⟩ := yStore_some hs
    intro H locs la cs sl hR hS hcs hsl hv hlen
    have hm : (i, Value.int x) ∈ yLs E h ls := yLs_mem.mpr ⟨i, .inl x, yLd_some hl, rfl⟩
    obtain ⟨kk0, hkk⟩ := List.getElem?_of_mem hm
    exact lv_iinc hx hb h4 hv hkk rfl hi rfl (fun la' hv' => kk H locs la' cs sl hR hS hcs hsl (yLv_set (v := .inl (x + Int32.ofInt n)) hv') ((List.length_set ..).trans hlen))
  · cases hs
theorem y_iconst {n : Int} (C : yX k E p s m args meth c) (hf : oFt k pc = some (.iconst n, nx, tg)) (kk : yG k E h B S s.heap m (fun H locs cs sl g => W p l e R s m args below meth c H locs cs sl Z g) (nx, ls, .inl (Int32.ofInt n) :: st, w)) : yG k E h B S s.heap m (fun H locs cs sl g => W p l e R s m args below meth c H locs cs sl Z g) (pc, ls, st, w) := by
  obtain ⟨hx, hb, -, hown, hts, hK, -, -, hD, -⟩ := C
  obtain ⟨h4, rfl⟩ := oFt_dec (n := 0) hf rfl hD
  intro H locs la cs sl hR hS hcs hsl hv hlen
  exact lv_iconst hx hb h4 rfl (kk H locs la cs sl hR hS hcs hsl hv hlen)
theorem y_bipush {n : Int} (C : yX k E p s m args meth c) (hf : oFt k pc = some (.bipush n, nx, tg)) (kk : yG k E h B S s.heap m (fun H locs cs sl g => W p l e R s m args below meth c H locs cs sl Z g) (nx, ls, .inl (Int8.ofInt n).toInt32 :: st, w)) : yG k E h B S s.heap m (fun H locs cs sl g => W p l e R s m args below meth c H locs cs sl Z g) (pc, ls, st, w) := by
  obtain ⟨hx, hb, -, hown, hts, hK, -, -, hD, -⟩ := C
  obtain ⟨h4, rfl⟩ := oFt_dec (n := 1) hf rfl hD
  intro H locs la cs sl hR hS hcs hsl hv hlen
  exact lv_bipush hx hb h4 rfl (kk H locs la cs sl hR hS hcs hsl hv hlen)
theorem y_sipush {n : Int} (C : yX k E p s m args meth c) (hf : oFt k pc = some (.sipush n, nx, tg)) (kk : yG k E h B S s.heap m (fun H locs cs sl g => W p l e R s m args below meth c H locs cs sl Z g) (nx, ls, .inl (Int16.ofInt n).toInt32 :: st, w)) : yG k E h B S s.heap m (fun H locs cs sl g => W p l e R s m args below meth c H locs cs sl Z g) (pc, ls, st, w) := by
  obtain ⟨hx, hb, -, hown, hts, hK, -, -, hD, -⟩ := C
  obtain ⟨h4, rfl⟩ := oFt_dec (n := 2) hf rfl hD
  intro H locs la cs sl hR hS hcs hsl hv hlen
  exact lv_sipush hx hb h4 rfl (kk H locs la cs sl hR hS hcs hsl hv hlen)
theorem y_dup (C : yX k E p s m args meth c) (hf : oFt k pc = some (.dup, nx, tg)) (hs : yS_dup nx ls st w = some t) (kk : yG k E h B S s.heap m (fun H locs cs sl g => W p l e R s m args below meth c H locs cs sl Z g) t) : yG k E h B S s.heap m (fun H locs cs sl g => W p l e R s m args below meth c H locs cs sl Z g) (pc, ls, st, w) := by
  obtain ⟨hx, hb, -, hown, hts, hK, -, -, hD, -⟩ := C
  obtain ⟨h4, rfl⟩ := oFt_dec (n := 0) hf rfl hD
  unfold yS_dup at hs
  split at hs
  · cases hs
    intro H locs la cs sl hR hS hcs hsl hv hlen
    exact lv_dup hx hb h4 (ycv_cat E h _) (kk H locs la cs sl hR hS hcs hsl hv hlen)
  · cases hs
theorem y_goto {o : Int} (C : yX k E p s m args meth c) (hf : oFt k pc = some (.goto o, nx, tg)) (kk : yG k E h B S s.heap m (fun H locs cs sl g => W p l e R s m args below meth c H locs cs sl Z g) (tg, ls, st, w)) : yG k E h B S s.heap m (fun H locs cs sl g => W p l e R s m args below meth c H locs cs sl Z g) (pc, ls, st, w) := by
  obtain ⟨hx, hb, -, hown, hts, hK, -, -, hD, -⟩ := C
  obtain ⟨h4, -⟩ := oFt_dec (n := 2) hf rfl hD
  intro H locs la cs sl hR hS hcs hsl hv hlen
  exact lv_goto hx hb h4 (oFt_br hf rfl hD) (kk H locs la cs sl hR hS hcs hsl hv hlen)
theorem y_ge {o : Int} (C : yX k E p s m args meth c) (hf : oFt k pc = some (.if_icmp .ge o, nx, tg)) (hs : yS_ge nx tg ls st w = some t) (kk : yG k E h B S s.heap m (fun H locs cs sl g => W p l e R s m args below meth c H locs cs sl Z g) t) : yG k E h B S s.heap m (fun H locs cs sl g => W p l e R s m args below meth c H locs cs sl Z g) (pc, ls, st, w) := by
  obtain ⟨hx, hb, -, hown, hts, hK, -, -, hD, -⟩ := C
  obtain ⟨h4, rfl⟩ := oFt_dec (n := 2) hf rfl hD
  unfold yS_ge at hs
  split at hs
  · rename_i y x r
    cases hs
    intro H locs la cs sl hR hS hcs hsl hv hlen
    have k1 := kk H locs la cs sl hR hS hcs hsl hv hlen
    refine lv_icmp_ge hx hb h4 (oFt_br hf rfl hD) (fun q => ?_) (fun q => ?_)
    · rw [decide_eq_true q] at k1
      exact k1
    · rw [decide_eq_false q] at k1
      exact k1
  · cases hs
theorem y_getf {idx : Nat} (C : yX k E p s m args meth c) (hf : oFt k pc = some (.getfield idx, nx, tg)) (hs : yS_getf k nx idx ls st w = some t) (kk : yG k E h B S s.heap m (fun H locs cs sl g => W p l e R s m args below meth c H locs cs sl Z g) t) : yG k E h B S s.heap m (fun H locs cs sl g => W p l e R s m args below meth c H locs cs sl Z g) (pc, ls, st, w) := by
  obtain ⟨hx, hb, -, hown, hts, hK, -, -, hD, -⟩ := C
  obtain ⟨h4, rfl⟩ := oFt_dec (n := 2) hf rfl hD
  unfold yS_getf at hs
  split at hs
  · rename_i q o r hl
    split at hs
    · rename_i x hw
      split at hs
      · rename_i v hv0
        cases hbq : Nat.beq x.1 q.1 with
        | false => rw [hbq] at hs; cases hs
        | true =>
          rw [hbq] at hs
          cases hs
          obtain ⟨ci, f⟩ := q
          obtain ⟨ci', fs⟩ := x
          have hci : ci' = ci := Nat.eq_of_beq_eq_true hbq
          subst hci
          obtain ⟨g1, g2, g3⟩ := oFL_ok hl
          intro H locs la cs sl hR hS hcs hsl hv hlen
          have hat := hR.2 o _ hw
          have hPw : va_P E.1 vwCl [(h + o, yEnt E h (.inl (ci', fs)))] H := fun j y hy => by
            have hj : j < 1 := (List.getElem?_eq_some_iff.mp hy).1
            rw [show j = 0 by omega] at hy
            cases hy
            exact hat
          exact va_get (own := oCN (oMO k)) (ref := ((oCl ci').2.1 f).1) (ci := ci') (C := (oCl ci').1) (T := (oCl ci').2.1) (N := (oCl ci').2.2) hx hb hts (oCl_ws g1) hown hK hPw 0 rfl (oCl_at g1) f g2 (hts _ g3) (fun x hx => hx) (v := ycv E h v) (by rw [List.getElem?_map, hv0]; rfl) h4 (kk H locs la cs sl hR hS hcs hsl hv hlen)
      · cases hs
    · cases hs
  · cases hs
end YSTEP
