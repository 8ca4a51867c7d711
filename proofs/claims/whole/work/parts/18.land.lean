/-! ===== Land: reads ===== -/
theorem c_Land_hasStone (M : oM) (l : Nat) (v : Int32) : oCt 1 k_Land_hasStone [.inr (K_LAND, l), .inl v] M (fun r M' => r = some (f_Oak_isWithin v 0 (M K_LAND l 1 - 1)) ∧ M' = M) := by
  refine oCt.of (ls := [some (.inr (K_LAND, l)), some (.inl v)]) mok_Land_hasStone rfl rfl ?_
  refine oRun_ok 6 rfl ?_
  refine g_callSN rfl rfl rfl rfl mok_Oak_isWithin (by decide) (c_Oak_isWithin M _ _ _) ?_
  rintro r8 M8 ⟨rfl, e⟩; rw [e]
  exact g_iret rfl rfl (n_Oak_isWithin _ _ _) ⟨rfl, rfl⟩
theorem c_Land_hasDeed (M : oM) (l : Nat) (v : Int32) : oCt 1 k_Land_hasDeed [.inr (K_LAND, l), .inl v] M (fun r M' => r = some (f_Oak_isWithin v 0 (M K_LAND l 4 - 1)) ∧ M' = M) := by
  refine oCt.of (ls := [some (.inr (K_LAND, l)), some (.inl v)]) mok_Land_hasDeed rfl rfl ?_
  refine oRun_ok 6 rfl ?_
  refine g_callSN rfl rfl rfl rfl mok_Oak_isWithin (by decide) (c_Oak_isWithin M _ _ _) ?_
  rintro r8 M8 ⟨rfl, e⟩; rw [e]
  exact g_iret rfl rfl (n_Oak_isWithin _ _ _) ⟨rfl, rfl⟩
def oHasCall (M : oM) (l : Nat) (d c : Int32) : Int32 := if f_Oak_isWithin d 0 (M K_LAND l 4 - 1) = 0 then 0 else if f_Oak_isWithin c 0 (M K_DEED (4 * l + d.toNatClampNeg) 4 - 1) = 0 then 0 else 1
theorem c_Land_hasCall (M : oM) (l n : Nat) (d c : Int32) (hn : M K_LAND l 4 = nI n) (h4 : n ≤ 4) : oCt 2 k_Land_hasCall [.inr (K_LAND, l), .inl d, .inl c] M (fun r M' => r = some (oHasCall M l d c) ∧ M' = M) := by
  refine oCt.of (ls := [some (.inr (K_LAND, l)), some (.inl d), some (.inl c)]) mok_Land_hasCall rfl rfl ?_
  refine oRun_ok 2 rfl ?_
  refine g_callV rfl rfl rfl rfl rfl mok_Land_hasDeed (by decide) (c_Land_hasDeed M l d) ?_
  rintro r2 M2 ⟨rfl, e⟩; rw [e]
  unfold oHasCall
  refine g_if_eq rfl (fun h5 => ?_) (fun h5 => ?_)
  · refine oRun_ok 1 rfl ?_
    exact g_iret rfl rfl rfl ⟨by rw [if_pos h5], rfl⟩
  · rw [if_neg h5]
    rw [hn] at h5
    obtain ⟨j, hj, rfl⟩ := wiI (by omega) h5
    rw [nIc (by omega)]
    refine oRun_ok 3 rfl ?_
    refine g_aald j rfl rfl rfl (by omega) rfl ?_
    refine oRun_ok 1 rfl ?_
    refine g_callV rfl rfl rfl rfl rfl mok_Deed_hasNumber (by decide) (c_Deed_hasNumber M (4 * l + j) c) ?_
    rintro r15 M15 ⟨rfl, e⟩; rw [e]
    refine g_if_eq rfl (fun h18 => ?_) (fun h18 => ?_)
    · refine oRun_ok 1 rfl ?_
      exact g_iret rfl rfl rfl ⟨by rw [if_pos h18], rfl⟩
    · refine oRun_ok 2 rfl ?_
      exact g_iret rfl rfl rfl ⟨by rw [if_neg h18], rfl⟩
/-- whether one of the first n deeds has the year -/
def oAnyY (N : Nat → Int32) (y : Int32) : Nat → Bool
  | 0 => false
  | n + 1 => oAnyY N y n || decide (N (20 + 35 * n + 2) = y)
theorem oAnyY_iff {N : Nat → Int32} {y : Int32} : ∀ {n : Nat}, oAnyY N y n = true ↔ ∃ d, d < n ∧ N (20 + 35 * d + 2) = y
  | 0 => by simp [oAnyY]
  | n + 1 => by
    rw [oAnyY, Bool.or_eq_true, oAnyY_iff, decide_eq_true_eq]
    constructor
    · rintro (⟨d, h1, h2⟩ | h)
      · exact ⟨d, by omega, h2⟩
      · exact ⟨n, by omega, h⟩
    · rintro ⟨d, h1, h2⟩
      by_cases e : d = n
      · subst e
        exact Or.inr h2
      · exact Or.inl ⟨d, by omega, h2⟩
theorem c_Land_hasYear (M : oM) (N : Nat → Int32) (l : Nat) (y : Int32) (hN : oNOk N) (hL : oRL M N l) : oCt 0 k_Land_hasYear [.inr (K_LAND, l), .inl y] M (fun r M' => r = some (bI (oAnyY N y (cD N))) ∧ M' = M) := by
  obtain ⟨hD, hD4⟩ := oND hN
  refine oCt.of (ls := [some (.inr (K_LAND, l)), some (.inl y), none]) mok_Land_hasYear rfl rfl ?_
  have loop : ∀ (q d : Nat), d + q = cD N → oAnyY N y d = false → oG k_Land_hasYear 0 2 [some (.inr (K_LAND, l)), some (.inl y), some (.inl (nI d))] [] M (fun r M' => r = some (bI (oAnyY N y (cD N))) ∧ M' = M) := by
    intro q
    induction q with
    | zero =>
      intro d hd hf
      refine oRun_ok 3 rfl ?_
      rw [show M 1 l 4 = nI (cD N) from hL.2.1.trans hD]
      refine g_ic_ge rfl (fun h7 => ?_) (fun h7 => ?_)
      · refine oRun_ok 1 rfl ?_
        exact g_iret rfl rfl rfl ⟨by rw [show cD N = d by omega, hf]; rfl, rfl⟩
      · rw [nIle (by omega) (by omega)] at h7
        omega
    | succ q ih =>
      intro d hd hf
      refine oRun_ok 3 rfl ?_
      rw [show M 1 l 4 = nI (cD N) from hL.2.1.trans hD]
      refine g_ic_ge rfl (fun h7 => ?_) (fun h7 => ?_)
      · rw [nIle (by omega) (by omega)] at h7
        omega
      refine oRun_ok 3 rfl ?_
      refine g_aald d rfl rfl rfl (by omega) rfl ?_
      refine oRun_ok 2 rfl ?_
      rw [show M 5 (4 * l + d) 2 = N (20 + 35 * d + 2) from (hL.2.2.2.2.2.1 d (by omega)).1 2 (by decide)]
      refine g_ic_ne rfl (fun h20 => ?_) (fun h20 => ?_)
      · refine oRun_ok 2 rfl ?_
        rw [nI_1]
        exact ih (d + 1) (by omega) (by rw [oAnyY, hf, decide_eq_false h20]; rfl)
      · refine oRun_ok 1 rfl ?_
        refine g_iret rfl rfl rfl ⟨?_, rfl⟩
        rw [(oAnyY_iff (n := cD N)).mpr ⟨d, by omega, h20⟩]
        rfl
  refine oRun_ok 2 rfl ?_
  exact loop (cD N) 0 (by omega) rfl
theorem c_Land_putStone (M : oM) (l s n : Nat) (x y : Int32) (hn : M K_LAND l 1 = nI n) (hs : s < n) (h8 : n ≤ 8) : oCt 2 k_Land_putStone [.inr (K_LAND, l), .inl (nI s), .inl x, .inl y] M (fun r M' => r = none ∧ M' = oUp (oUp M K_STX l s x) K_STY l s y) := by
  refine oCt.of (ls := [some (.inr (K_LAND, l)), some (.inl (nI s)), some (.inl x), some (.inl y)]) mok_Land_putStone rfl rfl ?_
  refine oRun_ok 2 rfl ?_
  refine g_callV rfl rfl rfl rfl rfl mok_Land_hasStone (by decide) (c_Land_hasStone M l (nI s)) ?_
  rintro r2 M2 ⟨rfl, e⟩; rw [e]
  refine g_if_eq rfl (fun h5 => ?_) (fun h5 => ?_)
  · rw [hn, wiN (by omega) (by omega)] at h5
    exact absurd hs h5
  · refine oRun_ok 4 rfl ?_
    refine g_iast s rfl rfl rfl (by omega) ?_
    refine oRun_ok 4 rfl ?_
    refine g_iast s rfl rfl rfl (by omega) ?_
    exact g_ret rfl rfl ⟨rfl, rfl⟩
def oSumC (N : Nat → Int32) : Nat → Int32
  | 0 => 0
  | n + 1 => oSumC N n + N (20 + 35 * n + 4)
theorem c_Land_callsOfAll (M : oM) (N : Nat → Int32) (l : Nat) (hN : oNOk N) (hL : oRL M N l) : oCt 0 k_Land_callsOfAll [.inr (K_LAND, l)] M (fun r M' => r = some (oSumC N (cD N)) ∧ M' = M) := by
  obtain ⟨hD, hD4⟩ := oND hN
  refine oCt.of (ls := [some (.inr (K_LAND, l)), none, none]) mok_Land_callsOfAll rfl rfl ?_
  have loop : ∀ (q d : Nat), d + q = cD N → oG k_Land_callsOfAll 0 4 [some (.inr (K_LAND, l)), some (.inl (oSumC N d)), some (.inl (nI d))] [] M (fun r M' => r = some (oSumC N (cD N)) ∧ M' = M) := by
    intro q
    induction q with
    | zero =>
      intro d hd
      refine oRun_ok 3 rfl ?_
      rw [show M 1 l 4 = nI (cD N) from hL.2.1.trans hD]
      refine g_ic_ge rfl (fun h9 => ?_) (fun h9 => ?_)
      · refine oRun_ok 1 rfl ?_
        exact g_iret rfl rfl rfl ⟨by rw [show cD N = d by omega], rfl⟩
      · rw [nIle (by omega) (by omega)] at h9
        omega
    | succ q ih =>
      intro d hd
      refine oRun_ok 3 rfl ?_
      rw [show M 1 l 4 = nI (cD N) from hL.2.1.trans hD]
      refine g_ic_ge rfl (fun h9 => ?_) (fun h9 => ?_)
      · rw [nIle (by omega) (by omega)] at h9
        omega
      refine oRun_ok 4 rfl ?_
      refine g_aald d rfl rfl rfl (by omega) rfl ?_
      refine oRun_ok 5 rfl ?_
      rw [nI_1, show M 5 (4 * l + d) 4 = N (20 + 35 * d + 4) from (hL.2.2.2.2.2.1 d (by omega)).1 4 (by decide)]
      exact ih (d + 1) (by omega)
  refine oRun_ok 4 rfl ?_
  exact loop (cD N) 0 (by omega)
def oDraw (z : Int32) : Int32 := z * 1103515245 + 12345
theorem c_Land_drawNumber (M : oM) (l : Nat) : oCt 0 k_Land_drawNumber [.inr (K_LAND, l)] M (fun r M' => r = some (oUshr (oDraw (M K_LAND l 7)) 8) ∧ M' = oUp M K_LAND l 7 (oDraw (M K_LAND l 7))) := by
  refine oCt.of (ls := [some (.inr (K_LAND, l))]) mok_Land_drawNumber rfl rfl ?_
  refine oRun_ok 12 rfl ?_
  refine g_iret rfl rfl rfl ⟨?_, rfl⟩
  rw [show oUp M K_LAND l 7 (M 1 l 7 * 1103515245 + 12345) 1 l 7 = _ from oUp_self]
  rfl
theorem and7 (x : Int32) : x &&& 7 = oRem (oRem x 8 + 8) 8 := by
  have h1 := pk_and x (m := 7) 3 rfl
  rw [h1, iEq, nIt (by omega)]
  have e8 : (8 : Int32).toInt = 8 := rfl
  have h2 := oRem_toInt (a := x) (b := 8) (by decide)
  rw [e8] at h2
  have h3 : -8 < x.toInt.tmod 8 ∧ x.toInt.tmod 8 < 8 := by
    have := Int.natAbs_tmod x.toInt 8
    have h4 : x.toInt.natAbs % (8 : Int).natAbs < 8 := Nat.mod_lt _ (by decide)
    omega
  have h5 : (oRem x 8 + 8).toInt = x.toInt.tmod 8 + 8 := by
    rw [iAdd (by rw [h2, e8]; omega), h2, e8]
  rw [oRem_toInt (by decide), h5, e8]
  have h6 : (x.toBitVec.toNat : Int) % 8 = x.toInt % 8 := by
    have : x.toInt = (x.toBitVec.toNat : Int) ∨ x.toInt = (x.toBitVec.toNat : Int) - 4294967296 := by
      show x.toBitVec.toInt = _ ∨ x.toBitVec.toInt = _
      rw [BitVec.toInt_eq_toNat_cond]
      split
      · exact Or.inl rfl
      · exact Or.inr rfl
    rcases this with h | h <;> omega
  have h7 : x.toInt.tmod 8 = x.toInt % 8 ∨ x.toInt.tmod 8 = x.toInt % 8 - 8 := by
    rw [Int.tmod_eq_emod]
    split
    · left; omega
    · right
      have : (8 : Int).natAbs = 8 := rfl
      omega
  have h8 : (x.toInt.tmod 8 + 8).tmod 8 = (x.toInt.tmod 8 + 8) % 8 := Int.tmod_eq_emod_of_nonneg (by omega)
  rw [h8]
  omega
theorem clamp_eq (v : Int32) : f_Math_max (-9) (f_Math_min 9 v) = f_Mod_within v (-9) 9 := by
  unfold f_Math_max f_Math_min f_Mod_within
  have e9 : (9 : Int32).toInt = 9 := rfl
  have em : (-9 : Int32).toInt = -9 := rfl
  by_cases h1 : v < 9
  · rw [if_pos h1]
    have h1' := iLt.mp h1
    by_cases h2 : -9 < v
    · rw [if_pos h2, if_pos (Int32.le_of_lt h2), if_pos (Int32.le_of_lt h1)]
    · rw [if_neg h2]
      by_cases h3 : -9 ≤ v
      · rw [if_pos h3, if_pos (Int32.le_of_lt h1)]
        exact Int32.le_antisymm h3 (Int32.not_lt.mp h2)
      · rw [if_neg h3]
  · rw [if_neg h1, if_pos (by decide : (-9 : Int32) < 9)]
    have h2 : (9 : Int32) ≤ v := Int32.not_lt.mp h1
    rw [if_pos (Int32.le_trans (by decide) h2)]
    by_cases h3 : v ≤ 9
    · rw [if_pos h3]
      exact Int32.le_antisymm h2 h3
    · rw [if_neg h3]
