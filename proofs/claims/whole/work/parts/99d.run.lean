/-! ===== the whole run of the constructors' machine ===== -/
def yMulP : Prop := ∀ {p : Program} {l : Launch} {e : Env} {R : Room} {s : State} {m : MethodId} {args : Array Value} {below : List Frame} {meth : Method} {c : Code} {Z : State → Prop} {E : oE} {h B S k pc nx tg : Nat} {ls : List (Option yV)} {st : List yV} {w : List yC} {t : yT} {idx : Nat}, yX k E p s m args meth c → oFt k pc = some (.multianewarray idx 2, nx, tg) → yS_multi k nx idx ls st w = some t → yRm B S R t.2.2.2 → yG k E h B S s.heap m (fun H locs cs sl g => W p l e R s m args below meth c H locs cs sl Z g) t → yG k E h B S s.heap m (fun H locs cs sl g => W p l e R s m args below meth c H locs cs sl Z g) (pc, ls, st, w)
def yLe (w w' : List yC) : Prop := w.length ≤ w'.length ∧ ySl w ≤ ySl w'
theorem yLe_refl (w : List yC) : yLe w w := ⟨Nat.le_refl _, Nat.le_refl _⟩
theorem yLe_app (w v : List yC) : yLe w (w ++ v) := ⟨by rw [List.length_append]; omega, by rw [ySl_app]; omega⟩
theorem yLe_set {w : List yC} {o : Nat} {x x' : yC} (h : w[o]? = some x) (e : ySz x' = ySz x) : yLe w (w.set o x') := ⟨by rw [List.length_set]; exact Nat.le_refl _, by rw [ySl_set w o x x' h e]; exact Nat.le_refl _⟩
theorem yLe.trans {a b c : List yC} (h : yLe a b) (g : yLe b c) : yLe a c := ⟨Nat.le_trans h.1 g.1, Nat.le_trans h.2 g.2⟩
theorem yStep_le {k nx tg : Nat} {ls : List (Option yV)} {st : List yV} {w : List yC} {I : Instr} {t : yT} (hs : yStep k nx tg ls st w I = some t) : yLe w t.2.2.2 := by
  unfold yStep at hs
  split at hs
  · unfold yS_aload at hs
    split at hs <;> cases hs
    exact yLe_refl w
  · unfold yS_iload at hs
    split at hs <;> cases hs
    exact yLe_refl w
  · unfold yS_istore at hs
    split at hs
    · obtain ⟨-, rfl⟩ := yStore_some hs
      exact yLe_refl w
    · cases hs
  · unfold yS_astore at hs
    split at hs
    · obtain ⟨-, rfl⟩ := yStore_some hs
      exact yLe_refl w
    · cases hs
  · unfold yS_iinc at hs
    split at hs
    · obtain ⟨-, rfl⟩ := yStore_some hs
      exact yLe_refl w
    · cases hs
  · cases hs
    exact yLe_refl w
  · cases hs
    exact yLe_refl w
  · cases hs
    exact yLe_refl w
  · unfold yS_dup at hs
    split at hs <;> cases hs
    exact yLe_refl w
  · cases hs
    exact yLe_refl w
  · unfold yS_ge at hs
    split at hs <;> cases hs
    exact yLe_refl w
  · unfold yS_new at hs
    split at hs <;> cases hs
    exact yLe_app w _
  · unfold yS_newa at hs
    split at hs
    · rename_i n r hj
      cases hb : yNn n with
      | false => rw [hb] at hs; cases hs
      | true => rw [hb] at hs; cases hs; exact yLe_app w _
    · cases hs
  · unfold yS_anew at hs
    split at hs
    · rename_i n r hj
      cases hb : yNn n with
      | false => rw [hb] at hs; cases hs
      | true => rw [hb] at hs; cases hs; exact yLe_app w _
    · cases hs
  · unfold yS_multi at hs
    split at hs
    · rename_i b n r
      generalize (Nat.beq (oMO k) 0 && _ && yNn n && yNn b) = z at hs
      cases z with
      | false => cases hs
      | true => cases hs; exact yLe_app w _
    · cases hs
  · unfold yS_getf at hs
    split at hs
    · split at hs
      · rename_i x hw
        split at hs
        · rename_i q _ _ _ _ _ _ _ _
          generalize Nat.beq x.1 _ = z at hs
          cases z with
          | false => cases hs
          | true => cases hs; exact yLe_refl w
        · cases hs
      · cases hs
    · cases hs
  · unfold yS_putf at hs
    split at hs
    · split at hs
      · rename_i x hw
        generalize (Nat.beq x.1 _ && _ && _ && _ && _) = z at hs
        cases z with
        | false => cases hs
        | true => cases hs; exact yLe_set hw (by show (x.2.set _ _).length = x.2.length; rw [List.length_set])
      · cases hs
    · cases hs
  · unfold yS_iast at hs
    split at hs
    · split at hs
      · rename_i a hw
        generalize (Nat.beq a.1 0 && _ && _) = z at hs
        cases z with
        | false => cases hs
        | true => cases hs; exact yLe_set hw rfl
      · cases hs
    · cases hs
  · unfold yS_cast at hs
    split at hs
    · split at hs
      · rename_i a hw
        generalize (Nat.beq a.1 2 && _ && _) = z at hs
        cases z with
        | false => cases hs
        | true => cases hs; exact yLe_set hw rfl
      · cases hs
    · cases hs
  · unfold yS_aast at hs
    split at hs
    · split at hs
      · rename_i a x hw hwv
        generalize (decide (yEl a.1 = some x.1) && _ && _) = z at hs
        cases z with
        | false => cases hs
        | true => cases hs; exact yLe_set hw rfl
      · cases hs
    · cases hs
  · cases hs
section YRUN
variable {p : Program} {l : Launch} {e : Env} {R : Room} {s : State} {m : MethodId} {args : Array Value} {below : List Frame} {meth : Method} {c : Code} {Z : State → Prop} {E : oE} {h B S k pc nx tg : Nat} {ls : List (Option yV)} {st : List yV} {w : List yC} {t : yT}
theorem y_step (hM : yMulP) {I : Instr} (C : yX k E p s m args meth c) (hf : oFt k pc = some (I, nx, tg)) (hs : yStep k nx tg ls st w I = some t) (hrm : yRm B S R t.2.2.2) (kk : yG k E h B S s.heap m (fun H locs cs sl g => W p l e R s m args below meth c H locs cs sl Z g) t) : yG k E h B S s.heap m (fun H locs cs sl g => W p l e R s m args below meth c H locs cs sl Z g) (pc, ls, st, w) := by
  unfold yStep at hs
  split at hs
  · exact y_aload C hf hs kk
  · exact y_iload C hf hs kk
  · exact y_istore C hf hs kk
  · exact y_astore C hf hs kk
  · exact y_iinc C hf hs kk
  · cases hs; exact y_iconst C hf kk
  · cases hs; exact y_bipush C hf kk
  · cases hs; exact y_sipush C hf kk
  · exact y_dup C hf hs kk
  · cases hs; exact y_goto C hf kk
  · exact y_ge C hf hs kk
  · exact y_new C hf hs hrm kk
  · exact y_newa C hf hs hrm kk
  · exact y_anew C hf hs hrm kk
  · exact hM C hf hs hrm kk
  · exact y_getf C hf hs kk
  · exact y_putf C hf hs kk
  · exact y_iast C hf hs kk
  · exact y_cast C hf hs kk
  · exact y_aast C hf hs kk
  · cases hs
end YRUN
