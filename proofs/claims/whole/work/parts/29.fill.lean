/-! ===== Arrays.fill, Cells.fillDeed ===== -/
def Q_fill (M : oM) (kd i n : Nat) (v : Int32) : Option Int32 → oM → Prop := fun r M' => r = none ∧ (∀ j, j < n → M' kd i j = v) ∧ oFr (oKi kd i) M M'
theorem c_fill_HROW (M : oM) (i : Nat) (v : Int32) : oCt 0 k_Arrays_fill [.inr (K_HROW, i), .inl v] M (Q_fill M K_HROW i 30 v) := by
  refine oCt.of (ls := [some (.inr (K_HROW, i)), some (.inl v), none, none]) mok_Arrays_fill rfl rfl ?_
  refine oRun_ok 3 rfl ?_
  refine g_alen rfl rfl rfl rfl ?_
  refine oRun_ok 1 rfl ?_
  have loop : ∀ (q j : Nat) (M1 : oM), j + q = 30 → (∀ a, a < j → M1 K_HROW i a = v) → oFr (oKi K_HROW i) M M1 → oG k_Arrays_fill 0 5 [some (.inr (K_HROW, i)), some (.inl v), some (.inl (nI j)), some (.inl (nI 30))] [] M1 (Q_fill M K_HROW i 30 v) := by
    intro q
    induction q with
    | zero =>
      intro j M1 hj ha hf
      have hj : j = 30 := by omega
      subst hj
      refine oRun_ok 2 rfl ?_
      refine g_ic_ge rfl (fun _ => ?_) (fun h => absurd (Int32.le_refl _) h)
      exact g_ret rfl rfl ⟨rfl, ha, hf⟩
    | succ q ih =>
      intro j M1 hj ha hf
      refine oRun_ok 2 rfl ?_
      refine g_ic_ge rfl (fun h7 => ?_) (fun _ => ?_)
      · rw [nIle (by omega) (by omega)] at h7
        omega
      refine oRun_ok 3 rfl ?_
      refine g_iast j rfl rfl rfl (by omega) ?_
      refine oRun_ok 2 rfl ?_
      rw [nI_1]
      refine ih (j + 1) _ (by omega) (fun a ha' => ?_) (hf.up ⟨rfl, rfl⟩)
      by_cases e : a = j
      · subst e
        exact oUp_self
      · rw [oUp_j e]
        exact ha a (by omega)
  exact loop 30 0 M (by omega) (fun a ha => absurd ha (by omega)) oFr.rf
theorem c_fill_NOB (M : oM) (i : Nat) (v : Int32) : oCt 0 k_Arrays_fill [.inr (K_NOB, i), .inl v] M (Q_fill M K_NOB i 30 v) := by
  refine oCt.of (ls := [some (.inr (K_NOB, i)), some (.inl v), none, none]) mok_Arrays_fill rfl rfl ?_
  refine oRun_ok 3 rfl ?_
  refine g_alen rfl rfl rfl rfl ?_
  refine oRun_ok 1 rfl ?_
  have loop : ∀ (q j : Nat) (M1 : oM), j + q = 30 → (∀ a, a < j → M1 K_NOB i a = v) → oFr (oKi K_NOB i) M M1 → oG k_Arrays_fill 0 5 [some (.inr (K_NOB, i)), some (.inl v), some (.inl (nI j)), some (.inl (nI 30))] [] M1 (Q_fill M K_NOB i 30 v) := by
    intro q
    induction q with
    | zero =>
      intro j M1 hj ha hf
      have hj : j = 30 := by omega
      subst hj
      refine oRun_ok 2 rfl ?_
      refine g_ic_ge rfl (fun _ => ?_) (fun h => absurd (Int32.le_refl _) h)
      exact g_ret rfl rfl ⟨rfl, ha, hf⟩
    | succ q ih =>
      intro j M1 hj ha hf
      refine oRun_ok 2 rfl ?_
      refine g_ic_ge rfl (fun h7 => ?_) (fun _ => ?_)
      · rw [nIle (by omega) (by omega)] at h7
        omega
      refine oRun_ok 3 rfl ?_
      refine g_iast j rfl rfl rfl (by omega) ?_
      refine oRun_ok 2 rfl ?_
      rw [nI_1]
      refine ih (j + 1) _ (by omega) (fun a ha' => ?_) (hf.up ⟨rfl, rfl⟩)
      by_cases e : a = j
      · subst e
        exact oUp_self
      · rw [oUp_j e]
        exact ha a (by omega)
  exact loop 30 0 M (by omega) (fun a ha => absurd ha (by omega)) oFr.rf
theorem c_fill_RPL (M : oM) (i : Nat) (v : Int32) : oCt 0 k_Arrays_fill [.inr (K_RPL, i), .inl v] M (Q_fill M K_RPL i 24 v) := by
  refine oCt.of (ls := [some (.inr (K_RPL, i)), some (.inl v), none, none]) mok_Arrays_fill rfl rfl ?_
  refine oRun_ok 3 rfl ?_
  refine g_alen rfl rfl rfl rfl ?_
  refine oRun_ok 1 rfl ?_
  have loop : ∀ (q j : Nat) (M1 : oM), j + q = 24 → (∀ a, a < j → M1 K_RPL i a = v) → oFr (oKi K_RPL i) M M1 → oG k_Arrays_fill 0 5 [some (.inr (K_RPL, i)), some (.inl v), some (.inl (nI j)), some (.inl (nI 24))] [] M1 (Q_fill M K_RPL i 24 v) := by
    intro q
    induction q with
    | zero =>
      intro j M1 hj ha hf
      have hj : j = 24 := by omega
      subst hj
      refine oRun_ok 2 rfl ?_
      refine g_ic_ge rfl (fun _ => ?_) (fun h => absurd (Int32.le_refl _) h)
      exact g_ret rfl rfl ⟨rfl, ha, hf⟩
    | succ q ih =>
      intro j M1 hj ha hf
      refine oRun_ok 2 rfl ?_
      refine g_ic_ge rfl (fun h7 => ?_) (fun _ => ?_)
      · rw [nIle (by omega) (by omega)] at h7
        omega
      refine oRun_ok 3 rfl ?_
      refine g_iast j rfl rfl rfl (by omega) ?_
      refine oRun_ok 2 rfl ?_
      rw [nI_1]
      refine ih (j + 1) _ (by omega) (fun a ha' => ?_) (hf.up ⟨rfl, rfl⟩)
      by_cases e : a = j
      · subst e
        exact oUp_self
      · rw [oUp_j e]
        exact ha a (by omega)
  exact loop 24 0 M (by omega) (fun a ha => absurd ha (by omega)) oFr.rf
/-- whether a side changes a cell -/
def sOne (px p2 qx q2 x y : Int) : Bool := if p2 < q2 then sSd px p2 qx q2 x y else sSd qx q2 px p2 x y
/-- whether the first k sides of n corners change a cell an odd number of times -/
def sHx (cx cy : Nat → Int32) (n : Nat) (x y : Int) : Nat → Bool
  | 0 => false
  | k + 1 => Bool.xor (sHx cx cy n x y k) (sOne (cx k).toInt (cy k).toInt (cx (if k + 1 = n then 0 else k + 1)).toInt (cy (if k + 1 = n then 0 else k + 1)).toInt x y)
/-- whether a deed holds a cell -/
def sHeld (N : Nat → Int32) (d : Nat) (x y : Int) : Bool := sHx (fun j => (sC N d (sNd N d) (sCh N d) j).1) (fun j => (sC N d (sNd N d) (sCh N d) j).2) (cC N d + 1) x y (cC N d + 1)
def oCs (w r : Nat) : Nat → Nat → Prop := fun k i => oWs w k i ∨ (k = K_HROW ∧ i = r)
theorem oCs_kp (w r : Nat) : ∀ k ∈ oRLk, ∀ i, ¬ oCs w r k i := by
  intro k hk i h
  rcases h with h | ⟨rfl, -⟩
  · exact oWs_kp w k hk i h
  · revert hk
    decide
def Q_fillDeed (M : oM) (N : Nat → Int32) (w r d : Nat) : Option Int32 → oM → Prop := fun o M' => o = none ∧ (∀ y, y < 30 → ∀ x : Nat, tb (M' K_HROW r y) x = (decide (x < 30) && sHeld N d x y)) ∧ oFr (oCs w r) M M'
theorem tb_0 (x : Nat) : tb 0 x = false := by
  show (BitVec.ofNat 32 0).getLsbD x = false
  simp
theorem c_Cells_fillDeed (M : oM) (N : Nat → Int32) (c w d : Nat) (hN : oNOk N) (hL : oRL M N w) (hd : d < cD N) : oCt 4 k_Cells_fillDeed [.inr (K_CELLS, c), .inr (K_WALK, w), .inl (nI d)] M (Q_fillDeed M N w (4 * c + d) d) := by
  obtain ⟨-, d4⟩ := oND hN
  have hDo := hN.2.2.2.2.1 d hd
  obtain ⟨-, hC10⟩ := oNC hDo
  have hch := sCh_rng hN hd
  refine oCt.of (ls := [some (.inr (K_CELLS, c)), some (.inr (K_WALK, w)), some (.inl (nI d)), none, none, none]) mok_Cells_fillDeed rfl rfl ?_
  refine oRun_ok 3 rfl ?_
  refine g_aald d rfl rfl rfl (by omega) rfl ?_
  refine oRun_ok 3 rfl ?_
  refine g_callS rfl rfl rfl rfl mok_Arrays_fill (by decide) (c_fill_HROW M (4 * c + d) 0) ?_
  rintro r9 M9 ⟨rfl, z9, f9⟩
  have F9 : oFr (oCs w (4 * c + d)) M M9 := f9.mono (fun k i q => Or.inr q)
  have L9 := oRL_kp (F9.kp (oCs_kp _ _)) hL
  refine oRun_ok 2 rfl ?_
  refine g_callV rfl rfl rfl rfl rfl mok_Walk_traceDeed (by decide) (c_Walk_traceDeed M9 N w d hN L9 hd) ?_
  rintro r14 M14 ⟨rfl, e14, p14, f14⟩
  have F14 : oFr (oCs w (4 * c + d)) M M14 := F9.tr (f14.mono (fun k i q => Or.inl q))
  have z14 : ∀ y, y < 30 → M14 K_HROW (4 * c + d) y = 0 := by
    intro y hy
    rw [f14 K_HROW (4 * c + d) (by
      rintro (q | ⟨-, q | q | q⟩) <;> exact absurd q (by decide))]
    exact z9 y hy
  refine oRun_ok 2 rfl ?_
  have loop : ∀ (q k : Nat) (M1 : oM) (x5 : Option oV), k + q = cC N d + 1 → (∀ y, y < 30 → ∀ x : Nat, tb (M1 K_HROW (4 * c + d) y) x = (decide (x < 30) && sHx (fun j => (sC N d (sNd N d) (sCh N d) j).1) (fun j => (sC N d (sNd N d) (sCh N d) j).2) (cC N d + 1) x y k)) → oFr (oKi K_HROW (4 * c + d)) M14 M1 → oG k_Cells_fillDeed 4 20 [some (.inr (K_CELLS, c)), some (.inr (K_WALK, w)), some (.inl (nI d)), some (.inr (K_HROW, 4 * c + d)), some (.inl (nI k)), x5] [] M1 (Q_fillDeed M N w (4 * c + d) d) := by
    intro q
    induction q with
    | zero =>
      intro k M1 x5 hk hb hf
      have hk : k = cC N d + 1 := by omega
      have e1 : M1 9 w 3 = nI (cC N d + 1) := by
        rw [show M1 9 w = M14 9 w from hf K_WALK w (by rintro ⟨q, -⟩; exact absurd q (by decide))]
        exact e14
      refine oRun_ok 3 rfl ?_
      rw [e1]
      refine g_ic_ge rfl (fun _ => ?_) (fun h => absurd (by rw [hk]; exact Int32.le_refl _) h)
      rw [hk] at hb
      exact g_ret rfl rfl ⟨rfl, hb, F14.tr (hf.mono (fun k i q => Or.inr q))⟩
    | succ q ih =>
      intro k M1 x5 hk hb hf
      have ew : ∀ kk, ¬ kk = K_HROW → M1 kk = M14 kk := fun kk h => funext (fun i => hf kk i (fun z => h z.1))
      have e1 : M1 K_WALK w 3 = nI (cC N d + 1) := by
        rw [ew K_WALK (by decide)]
        exact e14
      refine oRun_ok 3 rfl ?_
      rw [show M1 9 w 3 = nI (cC N d + 1) from e1]
      refine g_ic_ge rfl (fun h26 => ?_) (fun _ => ?_)
      · rw [nIle (by omega) (by omega)] at h26
        omega
      refine oRun_ok 2 rfl ?_
      refine g_callV rfl rfl rfl rfl rfl mok_Walk_nextCorner (by decide) (c_Walk_nextCorner M1 w k (cC N d + 1) e1 (by omega) (by omega)) ?_
      rintro r32 M32 ⟨rfl, e⟩; rw [e]
      have ho : (if k + 1 = cC N d + 1 then 0 else k + 1) ≤ cC N d := by split <;> omega
      generalize hoe : (if k + 1 = cC N d + 1 then 0 else k + 1) = o at ho ⊢
      have hxk : M1 10 w k = (sC N d (sNd N d) (sCh N d) k).1 := by
        rw [show M1 10 = M14 10 from ew K_WX (by decide)]
        exact (p14 k (by omega)).1
      have hyk : M1 11 w k = (sC N d (sNd N d) (sCh N d) k).2 := by
        rw [show M1 11 = M14 11 from ew K_WY (by decide)]
        exact (p14 k (by omega)).2
      have hxo : M1 10 w o = (sC N d (sNd N d) (sCh N d) o).1 := by
        rw [show M1 10 = M14 10 from ew K_WX (by decide)]
        exact (p14 o (by omega)).1
      have hyo : M1 11 w o = (sC N d (sNd N d) (sCh N d) o).2 := by
        rw [show M1 11 = M14 11 from ew K_WY (by decide)]
        exact (p14 o (by omega)).2
      have bk := sC_far (k := k) (nd := sNd N d) hN hd hch (by omega)
      have bo := sC_far (k := o) (nd := sNd N d) hN hd hch (by omega)
      have step : ∀ x y : Int, sHx (fun j => (sC N d (sNd N d) (sCh N d) j).1) (fun j => (sC N d (sNd N d) (sCh N d) j).2) (cC N d + 1) x y (k + 1) = Bool.xor (sHx (fun j => (sC N d (sNd N d) (sCh N d) j).1) (fun j => (sC N d (sNd N d) (sCh N d) j).2) (cC N d + 1) x y k) (sOne (sC N d (sNd N d) (sCh N d) k).1.toInt (sC N d (sNd N d) (sCh N d) k).2.toInt (sC N d (sNd N d) (sCh N d) o).1.toInt (sC N d (sNd N d) (sCh N d) o).2.toInt x y) := by
        intro x y
        rw [← hoe]
        rfl
      generalize sC N d (sNd N d) (sCh N d) k = pk at hxk hyk bk step
      generalize sC N d (sNd N d) (sCh N d) o = po at hxo hyo bo step
      have fin : ∀ (M2 : oM), (∀ y, y < 30 → ∀ x : Nat, tb (M2 K_HROW (4 * c + d) y) x = Bool.xor (tb (M1 K_HROW (4 * c + d) y) x) (decide (x < 30) && sOne pk.1.toInt pk.2.toInt po.1.toInt po.2.toInt x y)) → oFr (oKi K_HROW (4 * c + d)) M1 M2 → oG k_Cells_fillDeed 4 123 [some (.inr (K_CELLS, c)), some (.inr (K_WALK, w)), some (.inl (nI d)), some (.inr (K_HROW, 4 * c + d)), some (.inl (nI k)), some (.inl (nI o))] [] M2 (Q_fillDeed M N w (4 * c + d) d) := by
        intro M2 hb2 hf2
        refine oRun_ok 2 rfl ?_
        rw [nI_1]
        refine ih (k + 1) M2 _ (by omega) (fun y hy x => ?_) (hf.tr hf2)
        rw [hb2 y hy x, hb y hy x, step]
        cases decide (x < 30) <;> simp
      refine oRun_ok 4 rfl ?_
      refine g_iald k rfl rfl rfl (by omega) ?_
      refine oRun_ok 3 rfl ?_
      refine g_iald o rfl rfl rfl (by omega) ?_
      rw [hyk, hyo]
      refine g_ic_ge rfl (fun h51 => ?_) (fun h51 => ?_)
      · refine oRun_ok 5 rfl ?_
        refine g_iald o rfl rfl rfl (by omega) ?_
        refine oRun_ok 3 rfl ?_
        refine g_iald o rfl rfl rfl (by omega) ?_
        refine oRun_ok 3 rfl ?_
        refine g_iald k rfl rfl rfl (by omega) ?_
        refine oRun_ok 3 rfl ?_
        refine g_iald k rfl rfl rfl (by omega) ?_
        rw [hxk, hyk, hxo, hyo]
        refine g_callV rfl rfl rfl rfl rfl mok_Cells_addSide (by decide) (c_Cells_addSide M1 c (4 * c + d) _ _ _ _ bo.1 bo.2 bk.1 bk.2) ?_
        rintro r120 M120 ⟨rfl, b120, f120⟩
        refine fin M120 (fun y hy x => ?_) f120
        rw [b120 y hy x, sOne, if_neg (fun q => by have := iLe.mp h51; omega)]
      · refine oRun_ok 5 rfl ?_
        refine g_iald k rfl rfl rfl (by omega) ?_
        refine oRun_ok 3 rfl ?_
        refine g_iald k rfl rfl rfl (by omega) ?_
        refine oRun_ok 3 rfl ?_
        refine g_iald o rfl rfl rfl (by omega) ?_
        refine oRun_ok 3 rfl ?_
        refine g_iald o rfl rfl rfl (by omega) ?_
        rw [hxk, hyk, hxo, hyo]
        refine g_callV rfl rfl rfl rfl rfl mok_Cells_addSide (by decide) (c_Cells_addSide M1 c (4 * c + d) _ _ _ _ bk.1 bk.2 bo.1 bo.2) ?_
        rintro r84 M84 ⟨rfl, b84, f84⟩
        refine oRun_ok 1 rfl ?_
        refine fin M84 (fun y hy x => ?_) f84
        rw [b84 y hy x, sOne, if_pos (iLt.mp (Int32.not_le.mp h51))]
  refine loop (cC N d + 1) 0 M14 _ (by omega) (fun y hy x => ?_) oFr.rf
  rw [z14 y hy, tb_0]
  show false = (decide (x < 30) && false)
  rw [Bool.and_false]
