/-! ===== calls of constructors; the run ===== -/
theorem yArgs_ok : ∀ (n : Nat) (acc st as rest : List yV), yArgs n acc st = some (as, rest) → ∃ v bs, as = v :: (bs ++ acc) ∧ st = bs.reverse ++ v :: rest ∧ bs.length = n
  | 0, acc, [], as, rest, h => by cases h
  | 0, acc, v :: st, as, rest, h => by
    unfold yArgs at h
    cases h
    exact ⟨v, [], rfl, rfl, rfl⟩
  | n + 1, acc, [], as, rest, h => by cases h
  | n + 1, acc, v :: st, as, rest, h => by
    unfold yArgs at h
    obtain ⟨u, bs, h1, h2, h3⟩ := yArgs_ok n (v :: acc) st as rest h
    exact ⟨u, bs ++ [v], by rw [h1]; simp, by rw [h2]; simp, by simp [h3]⟩
theorem ySum {E : oE} {h : Nat} : ∀ (r : List yV), ((r.map (ycv E h)).map fun v => v.category).sum = r.length
  | [] => rfl
  | v :: r => by
    rw [List.map_cons, List.map_cons, List.sum_cons, ySum r, ycv_cat E h v, List.length_cons]
    omega
def yWd (E : oE) (h : Nat) (w : List yC) (U : State) : Prop := va_K E.1 vwCl (otys E) U ∧ (∀ x ∈ oNW, va_Nw x U) ∧ yAO U ∧ yR E h w U.heap
def yQc (E : oE) (h : Nat) (w : List yC) : Array Value → State → Outcome → State → Prop := fun _ st oc t => oc = .returned none ∧ yR E h w t.heap ∧ va_F (fun q => h ≤ q) st t
theorem yWd_blind (E : oE) (h : Nat) (w : List yC) (av : List Value) : FrameBlind (va_Pc av (yWd E h w)) := by
  intro a U g mk hp
  obtain ⟨rfl, h1, h2, h3, h4⟩ := hp
  exact ⟨rfl, va_K.moved (u := U) (U := U.calling g mk av.toArray) (Vm.Alike.refl U.vm) h1, fun x hx => va_Nw.same (u := U) (oNW_tables x hx) rfl (h2 x hx), yAO_moved (u := U) (U := U.calling g mk av.toArray) (Vm.Alike.refl U.vm) h3, h4⟩
def yRoom (d mc ms : Nat) : Room := { frames := d, cells := mc, slots := ms, locals := 40 * d }
theorem yHalt_ret {k pc : Nat} (hk : k ∈ yInits) (h : yHalt k pc = true) : ∃ nx tg, oFt k pc = some (.return_, nx, tg) := by
  unfold yHalt at h
  split at h
  · rename_i a b hf
    exact ⟨a, b, hf⟩
  · exfalso
    rw [Bool.and_eq_true] at h
    have e : k = k_Law_law := Nat.eq_of_beq_eq_true h.1
    rw [e] at hk
    exact absurd hk (by decide)
/-- what the run says of a method from a place on -/
def yRun (d k : Nat) (pc : Nat) (ls : List (Option yV)) (st : List yV) (w : List yC) (t : yT) : Prop := yLe w t.2.2.2 ∧ ∀ {p : Program} {l : Launch} {e : Env} {R : Room} {s : State} {m : MethodId} {args : Array Value} {below : List Frame} {meth : Method} {c : Code} {Z : State → Prop} {E : oE} {h B S : Nat}, yX k E p s m args meth c → d ≤ R.frames → 40 * d ≤ R.locals → yRm B S R t.2.2.2 → yG k E h B S s.heap m (fun H locs cs sl g => W p l e R s m args below meth c H locs cs sl Z g) t → yG k E h B S s.heap m (fun H locs cs sl g => W p l e R s m args below meth c H locs cs sl Z g) (pc, ls, st, w)
theorem yInits_of {k : Nat} (hk : k ∈ yInits) : oMok k ∧ (oMY k).name = "<init>" ∧ oMR k = none ∧ oStat k = false := by
  have h1 := List.all_eq_true.mp yInits_nm k hk
  simp only [Bool.and_eq_true, decide_eq_true_eq, Bool.not_eq_true'] at h1
  exact ⟨yInits_ok k hk, h1.1.1.1, h1.1.1.2, h1.2⟩
theorem yMet {d k pc' : Nat} {as : List yV} {ls' : List (Option yV)} {w w' : List yC} (hk : k ∈ yInits) (hlen : as.length ≤ oML k) (hr : yRun d k 0 (as.map some ++ List.replicate (oML k - as.length) none) [] w (pc', ls', [], w')) (hh : yHalt k pc' = true) (l : Launch) (E : oE) (h : Nat) : Met l (oMY k) (oWk k) (yRoom d (w'.length - w.length) (ySl w' - ySl w)) (va_Pc (as.map (ycv E h)) (yWd E h w)) (yQc E h w') (w'.length - w.length) (ySl w' - ySl w) (fun q => h ≤ q) := by
  obtain ⟨hok, hnm, hret, -⟩ := yInits_of hk
  obtain ⟨f1, f2, f3, f4, -⟩ := oMok_facts hok.1
  obtain ⟨hle, body⟩ := hr
  dsimp only at hle body
  refine va_MetF (cc := oMC k) (maxL := oML k) (ret := oMR k) (oPl hok.1) rfl ?_
  intro p e s m args below meth c s₁ B hml hv
  obtain ⟨rfl, hK, hN, hA, hR⟩ := hv
  have hts := atoms_spec (ws := oWk k) B.pre
  have hin : meth.name = "<init>" := (name_of_methodNamed B.named B.method).1.trans hnm
  have C : yX k E p s m (as.map (ycv E h)).toArray meth c := ⟨B.exec, B.bytes, hml, by rw [f1]; exact findClass_of_methodNamed B.named, fun x hx => hts x (List.mem_cons_of_mem _ hx), hK, hN, hA, hok.2.1, fun _ => hin⟩
  have hcat : ∀ v ∈ as.map (ycv E h), v.category = 1 := fun v hv => by
    obtain ⟨u, -, rfl⟩ := List.mem_map.mp hv
    exact ycv_cat E h u
  have hl := lv_entry (as.map (ycv E h)) (n := oML k) (by rw [lg_sl_len _ hcat, List.length_map]; exact hlen)
  rw [lg_entry_eq]
  refine body (B := w.length) (S := ySl w) C (Nat.le_refl _) (Nat.le_refl _) ⟨?_, ?_⟩ ?_ s.heap [] _ 0 0 hR va_S.rf (Nat.zero_add _) (Nat.zero_add _) ?_ ?_
  · show w'.length ≤ w.length + (w'.length - w.length)
    omega
  · show ySl w' ≤ ySl w + (ySl w' - ySl w)
    omega
  · intro H locs la cs sl hR' hS hcs hsl hv hln
    dsimp only at hcs hsl
    have e1 : cs = w'.length - w.length := by omega
    have e2 : sl = ySl w' - ySl w := by omega
    subst e1
    subst e2
    obtain ⟨nx, tg, hf⟩ := yHalt_ret hk hh
    obtain ⟨h4, -⟩ := oFt_dec (n := 0) hf rfl hok.2.1
    exact W.vret B.exec B.bytes (by rw [B.returns]; exact hret) (fun t ht hW => ⟨rfl, by rw [ht]; exact hR', hS.F ht⟩) hS.2.2 h4 B.notSynchronized
  · refine ⟨hl.1, hl.2.1, fun q hq => hl.2.2 q ?_⟩
    obtain ⟨i, v, h1, rfl⟩ := yLs_mem.mp hq
    rw [show i = 0 + i by omega]
    refine lv_args_mem _ 0 i _ hcat ?_
    dsimp only at h1
    by_cases hi : i < as.length
    · rw [List.getElem?_append_left (by rw [List.length_map]; exact hi), List.getElem?_map] at h1
      rw [List.getElem?_map]
      cases hz : as[i]? with
      | none => rw [hz] at h1; cases h1
      | some z =>
        rw [hz] at h1
        have : z = v := by simpa using h1
        rw [this]
        rfl
    · rw [List.getElem?_append_right (by rw [List.length_map]; omega), List.getElem?_replicate] at h1
      split at h1 <;> simp at h1
  · show (as.map some ++ List.replicate (oML k - as.length) none).length = oML k
    rw [List.length_append, List.length_map, List.length_replicate]
    omega
section YCALL
variable {p : Program} {l : Launch} {e : Env} {R : Room} {s : State} {m : MethodId} {args : Array Value} {below : List Frame} {meth : Method} {c : Code} {Z : State → Prop} {E : oE} {h B S k pc nx tg : Nat} {ls : List (Option yV)} {st : List yV} {w : List yC} {t : yT}
theorem yBehind {w w' : List yC} {r : List yV} {st0 : List Value} {av : Array Value} {H : Heap} {locs : List Loc} {la : Array Slot} {cs sl : Nat} (hle : yLe w w') (hS : va_S (fun q => h ≤ q) s.heap H locs) (hcs : cs + B = w.length) (hsl : sl + S = ySl w) (hv : lv_has la (oML k) (yLs E h ls)) (hlen : ls.length = oML k)
    (hr : va_Run p l e R s m args below meth c H locs cs sl (w'.length - w.length) (ySl w' - ySl w) (F0 m pc la st0) (r.map (ycv E h)) (yQc E h w' av) (fun q => h ≤ q))
    (kk : yG k E h B S s.heap m (fun H locs cs sl g => W p l e R s m args below meth c H locs cs sl Z g) (pc + 3, ls, r, w')) : W p l e R s m args below meth c H locs cs sl Z (F0 m pc la st0) := by
  intro T hT X
  obtain ⟨v, st₀, t, T', L, h0, X', hL, e1, e2, ⟨hv0, hR1, hz, hkeep⟩, st⟩ := hr T hT X
  rw [h0] at hz hkeep
  have hvn : v = none := Outcome.returned.inj hv0
  subst hvn
  have hS1 : va_S (fun q => h ≤ q) s.heap T'.heap (locs ++ L) := ⟨Nat.le_trans hS.1 (by rw [e1]; exact hz), fun q h1 h2 => by rw [e1, hkeep q (Nat.lt_of_lt_of_le h1 hS.1) h2]; exact hS.2.1 q h1 h2, fun q hq => by
    rcases List.mem_append.mp hq with h | h
    · exact hS.2.2 q h
    · exact hL q h⟩
  obtain ⟨l1, l2⟩ := hle
  obtain ⟨t2, a1, b1⟩ := kk T'.heap (locs ++ L) la (cs + (w'.length - w.length)) (sl + (ySl w' - ySl w)) (by rw [e1]; exact hR1) hS1 (by dsimp only; omega) (by dsimp only; omega) hv hlen T' rfl X'
  exact ⟨t2, st t2 a1, b1⟩
theorem y_call {idx k' n p' d tag pc' : Nat} {as r : List yV} {ls' : List (Option yV)} {w' : List yC} (C : yX k E p s m args meth c) (hf : oFt k pc = some (.invokespecial idx, nx, tg)) (hd : d + 1 ≤ R.frames) (hd2 : 40 * (d + 1) ≤ R.locals) (hl : oLkM (oLks (oMO k)) idx = some (tag, k', n, p')) (hk : k' ∈ yInits) (htag : tag = 3 ∨ tag = 4) (ha : yArgs n [] st = some (as, r)) (hir : yIsR as = true) (hr8 : r.length ≤ 8) (hlen : as.length ≤ oML k') (hr : yRun d k' 0 (as.map some ++ List.replicate (oML k' - as.length) none) [] w (pc', ls', [], w')) (hh : yHalt k' pc' = true) (hrm : yRm B S R w')
    (kk : yG k E h B S s.heap m (fun H locs cs sl g => W p l e R s m args below meth c H locs cs sl Z g) (nx, ls, r, w')) : yG k E h B S s.heap m (fun H locs cs sl g => W p l e R s m args below meth c H locs cs sl Z g) (pc, ls, st, w) := by
  obtain ⟨hx, hb, hml, hown, hts, hK, hN, hAO, hD, hnm⟩ := C
  obtain ⟨h4, rfl⟩ := oFt_dec (n := 2) hf rfl hD
  obtain ⟨v, bs, e1, rfl, hbl⟩ := yArgs_ok n [] st as r ha
  rw [List.append_nil] at e1
  subst e1
  obtain ⟨o, rfl⟩ : ∃ o, v = .inr (some o) := by
    rcases v with x | _ | o
    · cases hir
    · cases hir
    · exact ⟨o, rfl⟩
  obtain ⟨hok, hinm, hret, hst⟩ := yInits_of hk
  obtain ⟨f1, f2, f3, f4, -, f6, -⟩ := oMok_facts hok.1
  have hle := hr.1
  dsimp only at hle
  have hMet := yMet hk hlen hr hh l E h
  intro H locs la cs sl hR hS hcs hsl hv hln
  dsimp only at hR hcs hsl
  have hpre : PreS s H (va_Pc ((.inr (some o) :: bs : List yV).map (ycv E h)) (yWd E h w)) ((.inr (some o) :: bs : List yV).map (ycv E h)) := ⟨yWd_blind E h w _, fun U hU hW => ⟨rfl, va_K.moved hW.alike hK, fun x hx => oNW_warm x hx hW (hN x hx), yAO_moved hW.alike hAO, by rw [hU]; exact hR⟩⟩
  have hfit : cs + (w'.length - w.length) ≤ R.cells ∧ sl + (ySl w' - ySl w) ≤ R.slots := by
    obtain ⟨l1, l2⟩ := hle
    obtain ⟨r1, r2⟩ := hrm
    constructor <;> omega
  have hstk : (bs.reverse ++ .inr (some o) :: r).map (ycv E h) = (bs.map (ycv E h)).reverse ++ .ref (yad E h o) :: r.map (ycv E h) := by rw [List.map_append, List.map_reverse, List.map_cons]; rfl
  have hroom : 2 * (F0 m pc la ((bs.reverse ++ .inr (some o) :: r).map (ycv E h))).monitorRoom + ((r.map (ycv E h)).map fun v => v.category).sum ≤ 8 := by show 2 * 0 + _ ≤ 8; rw [ySum]; omega
  rcases htag with rfl | rfl
  · obtain ⟨hk1, hnp, -, hini, hlink⟩ := oLks_I hl
    have cw : CallB R s args (oCN (oMO k)) idx (oMY k') (oMC k') (oML k') none (oWk k') (yRoom d (w'.length - w.length) (ySl w' - ySl w)) (w'.length - w.length) (ySl w' - ySl w) n ∧ (oMY k').name = "<init>" ∧ (Cond.instanceMethod (oMY k')).before args s = true :=
      ⟨callB_of n hts (oWk_good hok) (by unfold oWk; rw [hret]) rfl rfl (hts _ f4) (hts _ hlink) (by rw [← hnp]; exact f2) ⟨hd, by show 8 + (oML k' + 11) + 40 * d ≤ R.locals; omega⟩, hinm, hts _ (f6 hst)⟩
    have hrr := va_runI (p := p) (l := l) (e := e) (below := below) (meth := meth) (locs := locs) (cells := cs) (slots := sl) (nL := oML k) (b := yad E h o) (As := bs.map (ycv E h)) (rest := r.map (ycv E h)) (g := F0 m pc la ((bs.reverse ++ .inr (some o) :: r).map (ycv E h))) (Ts := oGT) ⟨hx, hb, hml, hown, hts⟩ hMet cw hpre rfl (by rw [List.length_map]; exact hbl) hv.1 hstk hroom h4 hfit
    exact yBehind hle hS hcs hsl hv hln hrr kk
  · obtain ⟨hk1, hnp, -, hini, hlink⟩ := oLks_IN hl
    have cw := va_cnB (R := R) (s := s) (args := args) (ret := none) (rm := yRoom d (w'.length - w.length) (ySl w' - ySl w)) (mc := w'.length - w.length) (ms := ySl w' - ySl w) (bytes := oMC k') (maxL := oML k') n hts (oWk_good hok) (by unfold oWk; rw [hret]) rfl rfl (hN _ hlink) (hts _ f4) (by rw [← hnp]; exact f2) ⟨hd, by show 8 + (oML k' + 11) + 40 * d ≤ R.locals; omega⟩
    have hrr := va_runIN (p := p) (l := l) (e := e) (below := below) (meth := meth) (locs := locs) (cells := cs) (slots := sl) (nL := oML k) (b := yad E h o) (As := bs.map (ycv E h)) (rest := r.map (ycv E h)) (g := F0 m pc la ((bs.reverse ++ .inr (some o) :: r).map (ycv E h))) (Ts := oGT) ⟨hx, hb, hml, hown, hts⟩ hMet ⟨cw, hinm, hts _ (f6 hst)⟩ hpre rfl (by rw [List.length_map]; exact hbl) hv.1 hstk hroom h4 hfit
    exact yBehind hle hS hcs hsl hv hln hrr kk
theorem y_obj {idx o : Nat} {r : List yV} (C : yX k E p s m args meth c) (hf : oFt k pc = some (.invokespecial idx, nx, tg)) (hd : 1 ≤ R.frames) (hd2 : 40 ≤ R.locals) (hl : yLk2 yOTs (oMO k) idx = true) (hr8 : r.length ≤ 8)
    (kk : yG k E h B S s.heap m (fun H locs cs sl g => W p l e R s m args below meth c H locs cs sl Z g) (nx, ls, r, w)) : yG k E h B S s.heap m (fun H locs cs sl g => W p l e R s m args below meth c H locs cs sl Z g) (pc, ls, .inr (some o) :: r, w) := by
  obtain ⟨hx, hb, hml, hown, hts, hK, hN, hAO, hD, hnm⟩ := C
  obtain ⟨h4, rfl⟩ := oFt_dec (n := 2) hf rfl hD
  intro H locs la cs sl hR hS hcs hsl hv hln
  refine W.objInit hx hb hown (hts _ (yObj_ok hl)) (hts _ yObj_in) (hts _ yObj_code) rfl (by rw [hml]; exact hv.1) rfl h4 hd (by show 2 * 0 + ((r.map (ycv E h)).map fun v => v.category).sum + 12 ≤ R.locals; rw [ySum]; omega) ?_
  exact kk H locs la cs sl hR hS hcs hsl hv hln
end YCALL
theorem y_ev (hM : yMulP) : ∀ (f d k pc : Nat) (ls : List (Option yV)) (st : List yV) (w : List yC) (t : yT), yEv f d k pc ls st w = some t → yRun d k pc ls st w t
  | 0, d, k, pc, ls, st, w, t, h => by cases h
  | f + 1, d, k, pc, ls, st, w, t, h => by
    unfold yEv at h
    cases hh : yHalt k pc with
    | true =>
      rw [hh] at h
      cases h
      exact ⟨yLe_refl w, fun _ _ _ _ kk => kk⟩
    | false =>
      rw [hh] at h
      simp only [cond_false] at h
      split at h
      · cases h
      · rename_i idx nx tg hf
        split at h
        · cases h
        · rename_i d'
          split at h
          · cases h
          · rename_i v rest
            cases hl : yLk2 yOTs (oMO k) idx with
            | true =>
              rw [hl] at h
              simp only [cond_true] at h
              split at h
              · rename_i o
                cases hb : Nat.ble rest.length 8 with
                | false => rw [hb] at h; cases h
                | true =>
                  rw [hb] at h
                  obtain ⟨i1, i2⟩ := y_ev hM f (d' + 1) k nx ls rest w t h
                  exact ⟨i1, fun C h1 h2 h3 kk => y_obj C hf (by omega) (by omega) hl (Nat.le_of_ble_eq_true hb) (i2 C h1 h2 h3 kk)⟩
              · cases h
            | false =>
              rw [hl] at h
              simp only [cond_false] at h
              split at h
              · cases h
              · rename_i tag k' n p' hlk
                cases hb : (yInits.contains k' && (Nat.beq tag 3 || Nat.beq tag 4)) with
                | false => rw [hb] at h; cases h
                | true =>
                  rw [hb] at h
                  simp only [cond_true] at h
                  rw [Bool.and_eq_true, Bool.or_eq_true] at hb
                  have hk' : k' ∈ yInits := by simpa using hb.1
                  have htag : tag = 3 ∨ tag = 4 := hb.2.imp Nat.eq_of_beq_eq_true Nat.eq_of_beq_eq_true
                  split at h
                  · cases h
                  · rename_i as r hargs
                    cases hb2 : (yIsR as && Nat.ble r.length 8 && Nat.ble as.length (oML k')) with
                    | false => rw [hb2] at h; cases h
                    | true =>
                      rw [hb2] at h
                      simp only [cond_true] at h
                      rw [Bool.and_eq_true, Bool.and_eq_true] at hb2
                      split at h
                      · rename_i pc' ls' w' hcal
                        cases hh2 : yHalt k' pc' with
                        | false => rw [hh2] at h; cases h
                        | true =>
                          rw [hh2] at h
                          simp only [cond_true] at h
                          have ih1 := y_ev hM f d' k' 0 _ [] w _ hcal
                          obtain ⟨i1, i2⟩ := y_ev hM f (d' + 1) k nx ls r w' t h
                          have hle := ih1.1
                          dsimp only at hle
                          refine ⟨hle.trans i1, fun C h1 h2 h3 kk => ?_⟩
                          exact y_call C hf h1 h2 hlk hk' htag hargs hb2.1.1 (Nat.le_of_ble_eq_true hb2.1.2) (Nat.le_of_ble_eq_true hb2.2) ih1 hh2 ⟨Nat.le_trans i1.1 h3.1, Nat.le_trans i1.2 h3.2⟩ (i2 C h1 h2 h3 kk)
                      · cases h
      · rename_i I nx tg hni hf
        split at h
        · cases h
        · rename_i pc' ls' st' w' hs
          obtain ⟨i1, i2⟩ := y_ev hM f d k pc' ls' st' w' t h
          have hle := yStep_le hs
          dsimp only at hle
          exact ⟨hle.trans i1, fun C h1 h2 h3 kk => y_step hM C hf hs ⟨Nat.le_trans i1.1 h3.1, Nat.le_trans i1.2 h3.2⟩ (i2 C h1 h2 h3 kk)⟩
