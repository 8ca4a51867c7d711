-- made by gen_places.py
def yPl : List (List Nat) := [[0], [32, 52], [33, 53], [34, 54], [35, 55], [36, 40, 44, 48, 56, 60, 64, 68], [37, 41, 45, 49, 57, 61, 65, 69], [38, 42, 46, 50, 58, 62, 66, 70], [39, 43, 47, 51, 59, 63, 67, 71], [72, 75], [73, 76], [74, 77], [78, 86], [79, 87], [80, 81, 82, 83, 88, 89, 90, 91], [84, 92], [85, 93], [1], [2], [4, 6, 8, 10, 12, 14, 16, 18, 20, 22, 24, 26, 28, 30], [5, 7, 9, 11, 13, 15, 17, 19, 21, 23, 25, 27, 29, 31], [3], [94], [95], [96], [97], [98, 100, 102, 104, 108, 111, 114, 117, 120], [99, 101, 103, 105, 109, 112, 115, 118, 121], [106], [107, 110, 113, 116, 119], [122], [123], [124], [125], [126], [127], [128], [129], [130], [131], [132], [133], [134], [135], [136], [137], [138], [139], [140], [141], [142], [143], [144], [145], [146], [147], [148], [149], [150], [151]]
def yPlace (k i : Nat) : Nat := (yPl.getD k []).getD i 0
def yE (D : va_G) (h b : Nat) (cA : Nat → ClassId) (L : Nat) (xs : Nat → Int32) (ov : Value) (adT adK adV : Nat → Nat) : oE := (D, fun k i => if k < 60 then h + yPlace k i else if k = 60 then b else if k = 61 then adT i else if k = 62 then adK i else adV i, cA, L, xs, ov)
def yM (k i j : Nat) : Int32 := yM0 (fun _ => 0) 0 k i j
theorem yM_eq {sc : Nat → Int32} {n k : Nat} (hk : k < 60) (i : Nat) : yM0 sc n k i = yM k i := by
  funext j
  have h60 : ¬ k = K_SCR := fun e => by rw [e] at hk; exact absurd hk (by decide)
  unfold yM yM0
  rw [if_neg h60, if_neg h60]
def yFs (f : Nat → Int32) (i : Nat) : Nat → List (Option (Nat × Nat × Nat)) → List yV → Bool
  | _, [], [] => true
  | j, none :: r, .inl x :: fs => decide (x = f j) && yFs f i (j + 1) r fs
  | j, some q :: r, .inr (some o) :: fs => Nat.beq o (yPlace q.1 (q.2.1 * i + q.2.2) + 1) && Nat.blt q.1 60 && yFs f i (j + 1) r fs
  | _, _, _ => false
def yChk (k i : Nat) : Bool := match oKD k, yW0[yPlace k i]? with
  | .inl q, some (.inl x) => Nat.beq x.1 q.1 && yFs (yM k i) i 0 q.2 x.2
  | .inr (ty, n, none), some (.inr (.inl a)) => Nat.beq a.1 ty && Nat.beq a.2.1 n && (List.range n).all (fun j => decide (yIn a.2.2 j = yM k i j))
  | .inr (ty, n, some q), some (.inr (.inr a)) => Nat.beq a.1 ty && Nat.beq a.2.1 n && Nat.blt q.1 60 && (List.range n).all (fun j => decide (yRf a.2.2 j = some (yPlace q.1 (q.2 * i + j) + 1)))
  | _, _ => false
set_option maxRecDepth 100000 in
theorem yChk_all : oPK.all (fun q => yChk q.1 q.2) = true := by decide +kernel
set_option maxRecDepth 100000 in
theorem yPlace_nodup : (oPK.map (fun q => yPlace q.1 q.2)).Nodup := by decide +kernel
def yOk3 (ls : List (Option yV)) : Bool := match ls with
  | [some (.inr (some a)), some (.inr (some b)), some (.inr (some c)), some (.inl z)] => Nat.beq a 0 && Nat.beq b 1 && Nat.beq c 124 && decide (z = 0)
  | _ => false
def yOk : Bool := match yEv 400 6 k_Law_law 0 [some (.inr (some 0)), none, none, none] [] [] with
  | some t => Nat.beq t.1 18 && yOk3 t.2.1 && t.2.2.1.isEmpty
  | none => false
set_option maxRecDepth 100000 in
theorem yOk_true : yOk = true := by decide +kernel
theorem yOk3_eq {ls : List (Option yV)} (h : yOk3 ls = true) : ls = [some (.inr (some 0)), some (.inr (some 1)), some (.inr (some 124)), some (.inl 0)] := by
  unfold yOk3 at h
  split at h
  · rename_i a b c z
    rw [Bool.and_eq_true, Bool.and_eq_true, Bool.and_eq_true, decide_eq_true_eq] at h
    obtain ⟨⟨⟨h1, h2⟩, h3⟩, h4⟩ := h
    rw [Nat.eq_of_beq_eq_true h1, Nat.eq_of_beq_eq_true h2, Nat.eq_of_beq_eq_true h3, h4]
  · cases h
theorem yEv_law : yEv 400 6 k_Law_law 0 [some (.inr (some 0)), none, none, none] [] [] = some (18, [some (.inr (some 0)), some (.inr (some 1)), some (.inr (some 124)), some (.inl 0)], [], yW0) := by
  have h := yOk_true
  have hw : yW0 = yW0 := rfl
  unfold yOk at h
  unfold yW0
  cases hz : yEv 400 6 k_Law_law 0 [some (.inr (some 0)), none, none, none] [] [] with
  | none => rw [hz] at h; cases h
  | some t =>
    rw [hz] at h
    obtain ⟨a, ls, st, w⟩ := t
    simp only [Bool.and_eq_true, List.isEmpty_iff] at h
    obtain ⟨⟨h1, h2⟩, h3⟩ := h
    have e1 : a = 18 := Nat.eq_of_beq_eq_true h1
    have e2 := yOk3_eq h2
    subst e1
    subst e2
    subst h3
    rfl
section YE
variable {D : va_G} {h b L : Nat} {cA : Nat → ClassId} {xs : Nat → Int32} {ov : Value} {adT adK adV : Nat → Nat}
theorem yE_ad {k i : Nat} (hk : k < 60) : oad (yE D h b cA L xs ov adT adK adV) k i = h + yPlace k i := if_pos hk
theorem yFs_ok {f : Nat → Int32} {i : Nat} : ∀ (j : Nat) (fds : List (Option (Nat × Nat × Nat))) (fs : List yV), yFs f i j fds fs = true → fs.map (ycv (yE D h b cA L xs ov adT adK adV) h) = oFV (yE D h b cA L xs ov adT adK adV) f i j fds
  | j, [], [], _ => rfl
  | j, [], _ :: _, hh => by cases hh
  | j, none :: r, [], hh => by cases hh
  | j, some q :: r, [], hh => by cases hh
  | j, none :: r, .inl x :: fs, hh => by
    unfold yFs at hh
    rw [Bool.and_eq_true, decide_eq_true_eq] at hh
    rw [List.map_cons, yFs_ok (j + 1) r fs hh.2, hh.1]
    rfl
  | j, none :: r, .inr _ :: fs, hh => by cases hh
  | j, some q :: r, .inl x :: fs, hh => by cases hh
  | j, some q :: r, .inr none :: fs, hh => by cases hh
  | j, some (k', a, c) :: r, .inr (some o) :: fs, hh => by
    unfold yFs at hh
    rw [Bool.and_eq_true, Bool.and_eq_true] at hh
    have ho : o = yPlace k' (a * i + c) + 1 := Nat.eq_of_beq_eq_true hh.1.1
    have hk : k' < 60 := Nat.le_of_ble_eq_true hh.1.2
    rw [List.map_cons, yFs_ok (j + 1) r fs hh.2, ho]
    show Value.ref (h + yPlace k' (a * i + c)) :: _ = Value.ref (oad (yE D h b cA L xs ov adT adK adV) k' (a * i + c)) :: _
    rw [yE_ad hk]
theorem yAt_cell {k i : Nat} {sc : Nat → Int32} {n0 : Nat} {H : Heap} (hR : yR (yE D h b cA L xs ov adT adK adV) h yW0 H) (hk : k < 60) (hc : yChk k i = true) : va_at D vwCl (h + yPlace k i, oEnt (yE D h b cA L xs ov adT adK adV) (yM0 sc n0) k i) H := by
  unfold yChk at hc
  unfold oEnt
  rw [yM_eq hk]
  split at hc
  · rename_i q x hq hx
    rw [Bool.and_eq_true] at hc
    obtain ⟨ci, fds⟩ := q
    obtain ⟨ci', fs⟩ := x
    have e : ci' = ci := Nat.eq_of_beq_eq_true hc.1
    subst e
    have h1 := hR.2 _ _ hx
    rw [hq]
    show va_at D vwCl (h + yPlace k i, .inr (ci', oFV (yE D h b cA L xs ov adT adK adV) (yM k i) i 0 fds)) H
    rw [← yFs_ok 0 fds fs hc.2]
    exact h1
  · rename_i ty n a hq hx
    rw [Bool.and_eq_true, Bool.and_eq_true] at hc
    obtain ⟨ty', n', ws⟩ := a
    have e : ty' = ty := Nat.eq_of_beq_eq_true hc.1.1
    have e2 : n' = n := Nat.eq_of_beq_eq_true hc.1.2
    subst e
    subst e2
    have h1 : H[h + yPlace k i]? = some (arrV (cA ty') n' (fun j => .int (yIn ws j))) := hR.2 _ _ hx
    rw [hq]
    show H[h + yPlace k i]? = some (arrV (cA ty') n' (fun j => .int (yM k i j)))
    rw [h1]
    refine congrArg some (yArrV_congr (fun j hj => ?_))
    have := List.all_eq_true.mp hc.2 j (List.mem_range.mpr hj)
    rw [decide_eq_true_eq] at this
    rw [this]
  · rename_i ty n q a hq hx
    rw [Bool.and_eq_true, Bool.and_eq_true, Bool.and_eq_true] at hc
    obtain ⟨ty', n', ws⟩ := a
    obtain ⟨k', a'⟩ := q
    have e : ty' = ty := Nat.eq_of_beq_eq_true hc.1.1.1
    have e2 : n' = n := Nat.eq_of_beq_eq_true hc.1.1.2
    have hk' : k' < 60 := Nat.le_of_ble_eq_true hc.1.2
    subst e
    subst e2
    have h1 : H[h + yPlace k i]? = some (arrV (cA ty') n' (fun j => va_rf ((yRf ws j).map (yad (yE D h b cA L xs ov adT adK adV) h)))) := hR.2 _ _ hx
    rw [hq]
    show H[h + yPlace k i]? = some (arrV (cA ty') n' (fun j => va_rf (some (oad (yE D h b cA L xs ov adT adK adV) k' (a' * i + j)))))
    rw [h1]
    refine congrArg some (yArrV_congr (fun j hj => ?_))
    have := List.all_eq_true.mp hc.2 j (List.mem_range.mpr hj)
    rw [decide_eq_true_eq] at this
    rw [this, yE_ad hk']
    rfl
  · cases hc
theorem yRep {sc : Nat → Int32} {n0 : Nat} {H : Heap} (hR : yR (yE D h b cA L xs ov adT adK adV) h yW0 H) : va_P D vwCl (oWS (yE D h b cA L xs ov adT adK adV) (yM0 sc n0)) H := by
  intro p q hp
  unfold oWS at hp
  rw [List.getElem?_map] at hp
  cases hz : oPK[p]? with
  | none => rw [hz] at hp; cases hp
  | some z =>
    rw [hz] at hp
    obtain ⟨k, i⟩ := z
    cases hp
    have hm := List.mem_of_getElem? hz
    have hk := (oPK_ok hm).1
    have hc := List.all_eq_true.mp yChk_all _ hm
    show va_at D vwCl (oad (yE D h b cA L xs ov adT adK adV) k i, _) H
    rw [yE_ad hk]
    exact yAt_cell hR hk hc
theorem yE_inj : oInj (yE D h b cA L xs ov adT adK adV) := by
  intro k i k' i' h1 h2 h3 h4 he
  rw [yE_ad h1, yE_ad h3] at he
  obtain ⟨p, hp⟩ := oPK_at h1 h2
  obtain ⟨p', hp'⟩ := oPK_at h3 h4
  have e : yPlace k i = yPlace k' i' := by omega
  have g1 : (oPK.map (fun q => yPlace q.1 q.2))[p]? = some (yPlace k i) := by rw [List.getElem?_map, hp]; rfl
  have g2 : (oPK.map (fun q => yPlace q.1 q.2))[p']? = some (yPlace k' i') := by rw [List.getElem?_map, hp']; rfl
  have hpw := List.pairwise_iff_getElem.mp yPlace_nodup
  obtain ⟨l1, e1⟩ := List.getElem?_eq_some_iff.mp g1
  obtain ⟨l2, e2⟩ := List.getElem?_eq_some_iff.mp g2
  have hpp : p = p' := by
    rcases Nat.lt_trichotomy p p' with hlt | heq | hgt
    · exact absurd (e1.trans (e.trans e2.symm)) (hpw p p' l1 l2 hlt)
    · exact heq
    · exact absurd (e2.trans (e.symm.trans e1.symm)) (hpw p' p l2 l1 hgt)
  subst hpp
  have := Option.some.inj (hp.symm.trans hp')
  cases this
  exact ⟨rfl, rfl⟩
theorem yE_A {q : Nat} (hq : oA (yE D h b cA L xs ov adT adK adV) q) : h ≤ q := by
  obtain ⟨k, i, hk, -, rfl⟩ := hq
  rw [yE_ad hk]
  omega
end YE
