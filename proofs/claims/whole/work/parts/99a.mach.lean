/-! ===== the constructors' machine: a step on places ===== -/
abbrev yT : Type := Nat × List (Option yV) × List yV × List yC
def yLd (ls : List (Option yV)) (i : Nat) : Option yV := match ls[i]? with
  | some (some v) => some v
  | _ => none
theorem yLd_some {ls : List (Option yV)} {i : Nat} {v : yV} (h : yLd ls i = some v) : ls[i]? = some (some v) := by
  unfold yLd at h
  cases hz : ls[i]? with
  | none => rw [hz] at h; cases h
  | some z =>
    cases z with
    | none => rw [hz] at h; cases h
    | some u => rw [hz] at h; cases h; rfl
def yS_aload (nx i : Nat) (ls : List (Option yV)) (st : List yV) (w : List yC) : Option yT := match yLd ls i with
  | some (.inr (some o)) => some (nx, ls, .inr (some o) :: st, w)
  | _ => none
def yS_iload (nx i : Nat) (ls : List (Option yV)) (st : List yV) (w : List yC) : Option yT := match yLd ls i with
  | some (.inl x) => some (nx, ls, .inl x :: st, w)
  | _ => none
def yS_store (k nx i : Nat) (ls : List (Option yV)) (v : yV) (r : List yV) (w : List yC) : Option yT := cond (Nat.blt i (oML k)) (some (nx, ls.set i (some v), r, w)) none
def yS_istore (k nx i : Nat) (ls : List (Option yV)) (st : List yV) (w : List yC) : Option yT := match st with
  | .inl x :: r => yS_store k nx i ls (.inl x) r w
  | _ => none
def yS_astore (k nx i : Nat) (ls : List (Option yV)) (st : List yV) (w : List yC) : Option yT := match st with
  | .inr (some o) :: r => yS_store k nx i ls (.inr (some o)) r w
  | _ => none
def yS_iinc (k nx i : Nat) (n : Int) (ls : List (Option yV)) (st : List yV) (w : List yC) : Option yT := match yLd ls i with
  | some (.inl x) => yS_store k nx i ls (.inl (x + Int32.ofInt n)) st w
  | _ => none
def yS_dup (nx : Nat) (ls : List (Option yV)) (st : List yV) (w : List yC) : Option yT := match st with
  | v :: r => some (nx, ls, v :: v :: r, w)
  | _ => none
def yS_ge (nx tg : Nat) (ls : List (Option yV)) (st : List yV) (w : List yC) : Option yT := match st with
  | .inl y :: .inl x :: r => some (cond (decide (y ≤ x)) tg nx, ls, r, w)
  | _ => none
def yDv (t : FieldType) : yV := match t with
  | .object _ => .inr none
  | .array _ => .inr none
  | _ => .inl 0
def yOkT (t : FieldType) : Bool := match t with
  | .object _ => true
  | .array _ => true
  | .int => true
  | .boolean => true
  | _ => false
theorem yDv_ok {E : oE} {h : Nat} {t : FieldType} (ht : yOkT t = true) : ycv E h (yDv t) = defaultValue t := by
  cases t <;> first | rfl | cases ht
def yDf (ci : Nat) : List yV := (List.range (oCl ci).2.2).map (fun j => yDv (oTy ci j))
theorem yOkT_all : ∀ ci, ci < 11 → ∀ j, j < (oCl ci).2.2 → yOkT (oTy ci j) = true := by decide +kernel
def yS_new (k nx idx : Nat) (ls : List (Option yV)) (st : List yV) (w : List yC) : Option yT := match yLk3 yNTs (oMO k) idx with
  | some q => some (nx, ls, .inr (some (w.length + 1)) :: st, w ++ [.inl (q.1, yDf q.1)])
  | none => none
def yAt (t : ArrayType) : Option Nat := match t with
  | .int => some 0
  | .boolean => some 1
  | .char => some 2
  | _ => none
def yNn (n : Int32) : Bool := !(decide (n < 0)) && Nat.ble n.toNatClampNeg 2000
def yS_newa (nx : Nat) (t : ArrayType) (ls : List (Option yV)) (st : List yV) (w : List yC) : Option yT := match yAt t, st with
  | some ty, .inl n :: r => cond (yNn n) (some (nx, ls, .inr (some (w.length + 1)) :: r, w ++ [.inr (.inl (ty, n.toNatClampNeg, []))])) none
  | _, _ => none
def yS_anew (k nx idx : Nat) (ls : List (Option yV)) (st : List yV) (w : List yC) : Option yT := match yLk3 yATs (oMO k) idx, st with
  | some q, .inl n :: r => cond (yNn n) (some (nx, ls, .inr (some (w.length + 1)) :: r, w ++ [.inr (.inr (q.2, n.toNatClampNeg, []))])) none
  | _, _ => none
def yMul (o n b : Nat) : List yC := .inr (.inr (7, n, (List.range n).map (fun j => (j, o + 2 + j)))) :: List.replicate n (.inr (.inl (0, b, [])))
def yS_multi (k nx idx : Nat) (ls : List (Option yV)) (st : List yV) (w : List yC) : Option yT := match st with
  | .inl b :: .inl n :: r => cond (Nat.beq (oMO k) 0 && Nat.beq idx 9 && yNn n && yNn b) (some (nx, ls, .inr (some (w.length + 1)) :: r, w ++ yMul w.length n.toNatClampNeg b.toNatClampNeg)) none
  | _ => none
def yS_getf (k nx idx : Nat) (ls : List (Option yV)) (st : List yV) (w : List yC) : Option yT := match oLkF (oFL (oMO k)) idx, st with
  | some q, .inr (some (o + 1)) :: r => match w[o]? with
    | some (.inl x) => match x.2[q.2]? with
      | some v => cond (Nat.beq x.1 q.1) (some (nx, ls, v :: r, w)) none
      | none => none
    | _ => none
  | _, _ => none
def yFit (t : FieldType) (v : yV) : Bool := match t, v with
  | .int, .inl _ => true
  | .boolean, .inl x => decide (x = 0) || decide (x = 1)
  | .object _, .inr (some _) => true
  | .array _, .inr (some _) => true
  | _, _ => false
theorem yFit_ok {E : oE} {h : Nat} {t : FieldType} {v : yV} (hf : yFit t v = true) : narrow t (ycv E h v) = ycv E h v ∧ fits t (ycv E h v) = true := by
  rcases v with x | _ | o
  · cases t <;> first | (exact ⟨rfl, rfl⟩) | (cases hf; done) | skip
    have hx : x = 0 ∨ x = 1 := by simpa [yFit] using hf
    rcases hx with rfl | rfl
    · exact ⟨show narrow .boolean (.int 0) = .int 0 by decide, show fits .boolean (.int 0) = true by decide⟩
    · exact ⟨show narrow .boolean (.int 1) = .int 1 by decide, show fits .boolean (.int 1) = true by decide⟩
  · cases t <;> cases hf
  · cases t <;> first | (exact ⟨rfl, rfl⟩) | cases hf
def yS_putf (k nx idx : Nat) (ls : List (Option yV)) (st : List yV) (w : List yC) : Option yT := match oLkF (oFL (oMO k)) idx, st with
  | some q, v :: .inr (some (o + 1)) :: r => match w[o]? with
    | some (.inl x) => cond (Nat.beq x.1 q.1 && Nat.beq (oMO k) q.1 && oIni k && Nat.blt q.2 x.2.length && yFit (oTy q.1 q.2) v) (some (nx, ls, r, w.set o (.inl (x.1, x.2.set q.2 v)))) none
    | _ => none
  | _, _ => none
def yS_iast (nx : Nat) (ls : List (Option yV)) (st : List yV) (w : List yC) : Option yT := match st with
  | .inl x :: .inl i :: .inr (some (o + 1)) :: r => match w[o]? with
    | some (.inr (.inl a)) => cond (Nat.beq a.1 0 && !(decide (i < 0)) && Nat.blt i.toNatClampNeg a.2.1) (some (nx, ls, r, w.set o (.inr (.inl (a.1, a.2.1, (i.toNatClampNeg, x) :: a.2.2))))) none
    | _ => none
  | _ => none
def yS_cast (nx : Nat) (ls : List (Option yV)) (st : List yV) (w : List yC) : Option yT := match st with
  | .inl x :: .inl i :: .inr (some (o + 1)) :: r => match w[o]? with
    | some (.inr (.inl a)) => cond (Nat.beq a.1 2 && !(decide (i < 0)) && Nat.blt i.toNatClampNeg a.2.1) (some (nx, ls, r, w.set o (.inr (.inl (a.1, a.2.1, (i.toNatClampNeg, vp_nar .char x) :: a.2.2))))) none
    | _ => none
  | _ => none
def yS_aast (nx : Nat) (ls : List (Option yV)) (st : List yV) (w : List yC) : Option yT := match st with
  | .inr (some (v + 1)) :: .inl i :: .inr (some (o + 1)) :: r => match w[o]?, w[v]? with
    | some (.inr (.inr a)), some (.inl x) => cond (decide (yEl a.1 = some x.1) && !(decide (i < 0)) && Nat.blt i.toNatClampNeg a.2.1) (some (nx, ls, r, w.set o (.inr (.inr (a.1, a.2.1, (i.toNatClampNeg, v + 1) :: a.2.2))))) none
    | _, _ => none
  | _ => none
def yStep (k nx tg : Nat) (ls : List (Option yV)) (st : List yV) (w : List yC) (I : Instr) : Option yT := match I with
  | .aload_n i => yS_aload nx i.val ls st w
  | .iload_n i => yS_iload nx i.val ls st w
  | .istore_n i => yS_istore k nx i.val ls st w
  | .astore_n i => yS_astore k nx i.val ls st w
  | .iinc i n => yS_iinc k nx i n ls st w
  | .iconst n => some (nx, ls, .inl (Int32.ofInt n) :: st, w)
  | .bipush n => some (nx, ls, .inl (Int8.ofInt n).toInt32 :: st, w)
  | .sipush n => some (nx, ls, .inl (Int16.ofInt n).toInt32 :: st, w)
  | .dup => yS_dup nx ls st w
  | .goto _ => some (tg, ls, st, w)
  | .if_icmp .ge _ => yS_ge nx tg ls st w
  | .new idx => yS_new k nx idx ls st w
  | .newarray t => yS_newa nx t ls st w
  | .anewarray idx => yS_anew k nx idx ls st w
  | .multianewarray idx 2 => yS_multi k nx idx ls st w
  | .getfield idx => yS_getf k nx idx ls st w
  | .putfield idx => yS_putf k nx idx ls st w
  | .iastore => yS_iast nx ls st w
  | .castore => yS_cast nx ls st w
  | .aastore => yS_aast nx ls st w
  | _ => none
/-- the arguments of a constructor's call: the object and the rest, in their order; what lies below them -/
def yArgs : Nat → List yV → List yV → Option (List yV × List yV)
  | 0, acc, v :: st => some (v :: acc, st)
  | n + 1, acc, v :: st => yArgs n (v :: acc) st
  | _, _, [] => none
def yIsR : List yV → Bool
  | .inr (some _) :: _ => true
  | _ => false
def yHalt (k pc : Nat) : Bool := match oFt k pc with
  | some (.return_, _, _) => true
  | _ => Nat.beq k k_Law_law && Nat.beq pc 18
def yEv : Nat → Nat → Nat → Nat → List (Option yV) → List yV → List yC → Option yT
  | 0, _, _, _, _, _, _ => none
  | f + 1, d, k, pc, ls, st, w => cond (yHalt k pc) (some (pc, ls, st, w)) (match oFt k pc with
    | none => none
    | some (.invokespecial idx, nx, _) => (match d with
      | 0 => none
      | d' + 1 => (match st with
        | [] => none
        | v :: rest => cond (yLk2 yOTs (oMO k) idx) (match v with
            | .inr (some _) => cond (Nat.ble rest.length 8) (yEv f (d' + 1) k nx ls rest w) none
            | _ => none) (match oLkM (oLks (oMO k)) idx with
            | none => none
            | some (tag, k', n, _) => cond (yInits.contains k' && (Nat.beq tag 3 || Nat.beq tag 4)) (match yArgs n [] (v :: rest) with
              | none => none
              | some (as, r) => cond (yIsR as && Nat.ble r.length 8 && Nat.ble as.length (oML k')) (match yEv f d' k' 0 (as.map some ++ List.replicate (oML k' - as.length) none) [] w with
                | some (pc', _, [], w') => cond (yHalt k' pc') (yEv f (d' + 1) k nx ls r w') none
                | _ => none) none) none)))
    | some (I, nx, tg) => (match yStep k nx tg ls st w I with
      | none => none
      | some (pc', ls', st', w') => yEv f d k pc' ls' st' w'))
def yW0 : List yC := match yEv 400 6 k_Law_law 0 [some (.inr (some 0)), none, none, none] [] [] with
  | some t => t.2.2.2
  | none => []
set_option maxRecDepth 100000 in
theorem yW0_len : yW0.length = 152 ∧ Nat.ble (ySl yW0) 20000 = true := by decide +kernel
