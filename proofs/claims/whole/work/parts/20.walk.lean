/-! ===== Walk: a step ===== -/
def oSO (f : Nat → Int32) (bx b2 nd ch : Int32) : Nat → Int32 := fun j => if j = 13 then b2 else if j = 12 then bx else if j = 11 then ch else if j = 10 then nd else if j = 9 then b2 else if j = 8 then bx else f j
def oKi (k0 i0 : Nat) : Nat → Nat → Prop := fun k i => k = k0 ∧ i = i0
theorem c_Walk_setOut (M : oM) (w i : Nat) (nd ch : Int32) : oCt 0 k_Walk_setOut [.inr (K_WALK, w), .inr (K_DEED, i), .inl nd, .inl ch] M (fun r M' => r = none ∧ M' K_WALK w = oSO (M K_WALK w) (M K_DEED i 0) (M K_DEED i 1) nd ch ∧ oFr (oKi K_WALK w) M M') := by
  refine oCt.of (ls := [some (.inr (K_WALK, w)), some (.inr (K_DEED, i)), some (.inl nd), some (.inl ch)]) mok_Walk_setOut rfl rfl ?_
  refine oRun_ok 22 rfl ?_
  refine g_ret rfl rfl ⟨rfl, ?_, (((((oFr.rf.up ⟨rfl, rfl⟩).up ⟨rfl, rfl⟩).up ⟨rfl, rfl⟩).up ⟨rfl, rfl⟩).up ⟨rfl, rfl⟩).up ⟨rfl, rfl⟩⟩
  simp only [oUp_at]
  rfl
theorem c_Walk_stepBy (M : oM) (w j : Nat) (way len : Int32) (hj : j < 8) (hw : way &&& 7 = nI j) : oCt 1 k_Walk_stepBy [.inr (K_WALK, w), .inl way, .inl len] M (fun r M' => r = none ∧ M' = oUp (oUp M K_WALK w 12 (M K_WALK w 12 + oTV 1 j * f_Oak_trueOf len (M K_WALK w 11))) K_WALK w 13 (M K_WALK w 13 + oTV 2 j * f_Oak_trueOf len (M K_WALK w 11))) := by
  refine oCt.of (ls := [some (.inr (K_WALK, w)), some (.inl way), some (.inl len), none, none]) mok_Walk_stepBy rfl rfl ?_
  refine oRun_ok 3 rfl ?_
  refine g_callSN rfl rfl rfl rfl mok_Oak_trueOf (by decide) (c_Oak_trueOf M _ _) ?_
  rintro r5 M5 ⟨rfl, e⟩; rw [e]
  refine oRun_ok 8 rfl ?_
  refine g_stepx rfl rfl ?_
  refine oRun_ok 1 rfl ?_
  refine g_tld j rfl (by decide) hw hj ?_
  refine oRun_ok 7 rfl ?_
  refine g_stepy rfl rfl ?_
  refine oRun_ok 1 rfl ?_
  refine g_tld j rfl (by decide) hw hj ?_
  refine oRun_ok 4 rfl ?_
  refine g_ret rfl rfl ⟨rfl, ?_⟩
  rw [show oUp M K_WALK w 12 (M 9 w 12 + oTV 1 j * f_Oak_trueOf len (M 9 w 11)) 9 w 13 = M 9 w 13 from oUp_j (by decide)]
def sW (nd kind way : Int32) : Int32 := if kind = 1 ∨ kind = 3 then way else oRem (way + nd + (if kind = 5 then 4 else 0)) 8
/-- where a call ends -/
def sStep (N : Nat → Int32) (bx b2 nd ch kind way len x y : Int32) : Int32 × Int32 :=
  if kind = 3 ∧ ¬ f_Mod_in (len - 1) 0 (N 1 - 1) = 0 then (N (4 + 2 * (len - 1).toNatClampNeg), N (4 + 2 * (len - 1).toNatClampNeg + 1))
  else if kind = 2 then (bx, b2)
  else if kind = 4 then ((x + bx) / 2, (y + b2) / 2)
  else (x + f_Mod_trueBy len ch * f_Mod_acrossBy (sW nd kind way), y + f_Mod_trueBy len ch * f_Mod_upBy (sW nd kind way))
theorem tab_eq : ∀ j : Fin 8, oTV 1 j.val = f_Mod_acrossBy (nI j.val) ∧ oTV 2 j.val = f_Mod_upBy (nI j.val) := by decide +kernel
theorem nI_and7 {n : Nat} (h : n < 2147483648) : nI n &&& 7 = nI (n % 8) := pk_andN (n := n) (by omega) (m := 7) 3 rfl
theorem nI_rem8 {n : Nat} (h : n < 2147483648) : oRem (nI n) 8 = nI (n % 8) := nIrem (d := 8) h (by decide) (by decide)
theorem sW_free {nd : Int32} {kd wy : Nat} (hk : kd = 1 ∨ kd = 3) (hw : wy < 12) : sW nd (nI kd) (oRem (nI wy) 8) = nI (wy % 8) := by
  unfold sW
  rw [if_pos (by rcases hk with rfl | rfl <;> decide), nI_rem8 (by omega)]
theorem sW_needle {kd wy nd : Nat} (hk : kd = 0 ∨ kd = 5) (hw : wy < 12) (hn : nd < 8) : sW (nI nd) (nI kd) (oRem (nI wy) 8) = nI ((wy + nd + (if kd = 5 then 4 else 0)) % 8) := by
  unfold sW
  rw [if_neg (by rcases hk with rfl | rfl <;> decide), nI_rem8 (n := wy) (by omega), nI_add]
  rcases hk with rfl | rfl
  · rw [if_neg (by decide), if_neg (by decide), show (0 : Int32) = nI 0 from rfl, nI_add, nI_rem8 (by omega)]
    congr 1
    omega
  · rw [if_pos (show nI 5 = 5 from rfl), if_pos rfl, show (4 : Int32) = nI 4 from rfl, nI_add, nI_rem8 (by omega)]
    congr 1
    omega
theorem c_Walk_goOn (M : oM) (N : Nat → Int32) (w kd wy ln nd : Nat) (hN : oNOk N) (hL : oRL M N w) (h1 : kd < 6) (h2 : wy < 12) (h3 : 1 ≤ ln ∧ ln ≤ 20) (h4 : nd < 8) (hnd : M K_WALK w 10 = nI nd) :
    oCt 2 k_Walk_goOn [.inr (K_WALK, w), .inl (nI kd), .inl (nI wy), .inl (nI ln)] M (fun r M' => r = none ∧ M' = oUp (oUp M K_WALK w 12 (sStep N (M K_WALK w 8) (M K_WALK w 9) (nI nd) (M K_WALK w 11) (nI kd) (oRem (nI wy) 8) (nI ln) (M K_WALK w 12) (M K_WALK w 13)).1) K_WALK w 13 (sStep N (M K_WALK w 8) (M K_WALK w 9) (nI nd) (M K_WALK w 11) (nI kd) (oRem (nI wy) 8) (nI ln) (M K_WALK w 12) (M K_WALK w 13)).2) := by
  obtain ⟨hS, hS8⟩ := oNS hN
  refine oCt.of (ls := [some (.inr (K_WALK, w)), some (.inl (nI kd)), some (.inl (nI wy)), some (.inl (nI ln))]) mok_Walk_goOn rfl rfl ?_
  generalize hQ : (fun (r : Option Int32) (M' : oM) => r = none ∧ M' = oUp (oUp M K_WALK w 12 (sStep N (M K_WALK w 8) (M K_WALK w 9) (nI nd) (M K_WALK w 11) (nI kd) (oRem (nI wy) 8) (nI ln) (M K_WALK w 12) (M K_WALK w 13)).1) K_WALK w 13 (sStep N (M K_WALK w 8) (M K_WALK w 9) (nI nd) (M K_WALK w 11) (nI kd) (oRem (nI wy) 8) (nI ln) (M K_WALK w 12) (M K_WALK w 13)).2) = Q
  have fin : ∀ X Y, sStep N (M K_WALK w 8) (M K_WALK w 9) (nI nd) (M K_WALK w 11) (nI kd) (oRem (nI wy) 8) (nI ln) (M K_WALK w 12) (M K_WALK w 13) = (X, Y) → Q none (oUp (oUp M K_WALK w 12 X) K_WALK w 13 Y) := by
    intro X Y h
    rw [← hQ]
    refine ⟨rfl, ?_⟩
    rw [h]
  have tail : ¬ (nI kd = 3 ∧ ¬ f_Mod_in (nI ln - 1) 0 (N 1 - 1) = 0) → oG k_Walk_goOn 2 49 [some (.inr (K_WALK, w)), some (.inl (nI kd)), some (.inl (nI wy)), some (.inl (nI ln))] [] M Q := by
    intro hno
    have free : ∀ j, j < 8 → sW (nI nd) (nI kd) (oRem (nI wy) 8) = nI j → ¬ nI kd = 2 → ¬ nI kd = 4 → Q none (oUp (oUp M K_WALK w 12 (M K_WALK w 12 + oTV 1 j * f_Oak_trueOf (nI ln) (M K_WALK w 11))) K_WALK w 13 (M K_WALK w 13 + oTV 2 j * f_Oak_trueOf (nI ln) (M K_WALK w 11))) := by
      intro j hj he n2 n4
      refine fin _ _ ?_
      unfold sStep
      rw [if_neg hno, if_neg n2, if_neg n4, he, (tab_eq ⟨j, hj⟩).1, (tab_eq ⟨j, hj⟩).2, Int32.mul_comm (f_Mod_acrossBy _), Int32.mul_comm (f_Mod_upBy _)]
      rfl
    refine oRun_ok 1 rfl ?_
    have kn : ∀ a b : Nat, a < 100 → b < 100 → (nI a = nI b ↔ a = b) := fun a b ha hb => nIe (by omega) (by omega)
    refine g_tsw [(1, 84), (2, 93), (3, 84), (4, 112), (5, 145)] 161 rfl (by decide +kernel) rfl ⟨fun h => ?_, fun h => ?_, fun h => ?_, fun h => ?_, fun h => ?_, trivial⟩ (fun h => ?_)
    · have hk : kd = 1 := (kn kd 1 (by omega) (by omega)).mp h
      subst hk
      refine oRun_ok 3 rfl ?_
      refine g_callV rfl rfl rfl rfl rfl mok_Walk_stepBy (by decide) (c_Walk_stepBy M w (wy % 8) _ _ (by omega) (nI_and7 (by omega))) ?_
      rintro r M' ⟨rfl, e⟩; rw [e]
      refine oRun_ok 1 rfl ?_
      exact g_ret rfl rfl (free (wy % 8) (by omega) (sW_free (Or.inl rfl) h2) (by decide) (by decide))
    · have hk : kd = 2 := (kn kd 2 (by omega) (by omega)).mp h
      subst hk
      refine oRun_ok 9 rfl ?_
      refine g_ret rfl rfl ?_
      refine fin _ _ ?_
      unfold sStep
      rw [if_neg hno, if_pos h]
      rw [show oUp M 9 w 12 (M 9 w 8) 9 w 9 = M 9 w 9 from oUp_j (by decide)]
    · have hk : kd = 3 := (kn kd 3 (by omega) (by omega)).mp h
      subst hk
      refine oRun_ok 3 rfl ?_
      refine g_callV rfl rfl rfl rfl rfl mok_Walk_stepBy (by decide) (c_Walk_stepBy M w (wy % 8) _ _ (by omega) (nI_and7 (by omega))) ?_
      rintro r M' ⟨rfl, e⟩; rw [e]
      refine oRun_ok 1 rfl ?_
      exact g_ret rfl rfl (free (wy % 8) (by omega) (sW_free (Or.inr rfl) h2) (by decide) (by decide))
    · have hk : kd = 4 := (kn kd 4 (by omega) (by omega)).mp h
      subst hk
      refine oRun_ok 19 rfl ?_
      refine g_ret rfl rfl ?_
      refine fin _ _ ?_
      unfold sStep
      rw [if_neg hno, if_neg (by decide), if_pos h]
      rw [show oUp M 9 w 12 ((M 9 w 12 + M 9 w 8) / 2) 9 w 13 = M 9 w 13 from oUp_j (by decide), show oUp M 9 w 12 ((M 9 w 12 + M 9 w 8) / 2) 9 w 9 = M 9 w 9 from oUp_j (by decide)]
    · have hk : kd = 5 := (kn kd 5 (by omega) (by omega)).mp h
      subst hk
      refine oRun_ok 8 rfl ?_
      rw [show M 9 w 10 = nI nd from hnd, nI_add, show (4 : Int32) = nI 4 from rfl, nI_add]
      refine g_callV rfl rfl rfl rfl rfl mok_Walk_stepBy (by decide) (c_Walk_stepBy M w ((wy + nd + 4) % 8) _ _ (by omega) (nI_and7 (by omega))) ?_
      rintro r M' ⟨rfl, e⟩; rw [e]
      refine oRun_ok 1 rfl ?_
      exact g_ret rfl rfl (free ((wy + nd + 4) % 8) (by omega) (sW_needle (Or.inr rfl) h2 h4) (by decide) (by decide))
    · have hk : kd = 0 := by
        have n1 : ¬ kd = 1 := fun q => h (1, 84) (by decide) (by rw [q]; rfl)
        have n2 : ¬ kd = 2 := fun q => h (2, 93) (by decide) (by rw [q]; rfl)
        have n3 : ¬ kd = 3 := fun q => h (3, 84) (by decide) (by rw [q]; rfl)
        have n4 : ¬ kd = 4 := fun q => h (4, 112) (by decide) (by rw [q]; rfl)
        have n5 : ¬ kd = 5 := fun q => h (5, 145) (by decide) (by rw [q]; rfl)
        omega
      subst hk
      refine oRun_ok 6 rfl ?_
      rw [show M 9 w 10 = nI nd from hnd, nI_add]
      refine g_callV rfl rfl rfl rfl rfl mok_Walk_stepBy (by decide) (c_Walk_stepBy M w ((wy + nd) % 8) _ _ (by omega) (nI_and7 (by omega))) ?_
      rintro r M' ⟨rfl, e⟩; rw [e]
      exact g_ret rfl rfl (free ((wy + nd) % 8) (by omega) (sW_needle (Or.inl rfl) h2 h4) (by decide) (by decide))
  refine oRun_ok 2 rfl ?_
  refine g_ic_ne rfl (fun hk => tail (fun q => hk q.1)) (fun hk => ?_)
  refine oRun_ok 5 rfl ?_
  refine g_callV rfl rfl rfl rfl rfl mok_Land_hasStone (by decide) (c_Land_hasStone M w _) ?_
  rintro r12 M12 ⟨rfl, e⟩; rw [e]
  rw [show M K_LAND w 1 = N 1 from hL.1]
  refine g_if_eq rfl (fun h15 => tail (fun q => q.2 h15)) (fun h15 => ?_)
  have hst : ¬ f_Mod_in (nI ln - 1) 0 (N 1 - 1) = 0 := h15
  rw [hS, show nI ln - 1 = nI (ln - 1) from nIsub (b := 1) h3.1, wiN (by omega) (by omega)] at h15
  have hlt : ln - 1 < cS N := Decidable.not_not.mp h15
  obtain ⟨s1, s2⟩ := hL.2.2.2.2.1 (ln - 1) hlt
  refine oRun_ok 7 rfl ?_
  refine g_iald (ln - 1) rfl rfl (nIsub (b := 1) h3.1) (by omega) ?_
  refine oRun_ok 8 rfl ?_
  refine g_iald (ln - 1) rfl rfl (nIsub (b := 1) h3.1) (by omega) ?_
  refine oRun_ok 1 rfl ?_
  refine g_ret rfl rfl (fin _ _ ?_)
  unfold sStep
  rw [if_pos ⟨hk, hst⟩, show nI ln - 1 = nI (ln - 1) from nIsub (b := 1) h3.1, nIc (by omega), ← s1, ← s2]
  rfl
