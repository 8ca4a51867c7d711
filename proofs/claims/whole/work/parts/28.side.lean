/-! ===== Cells.addSide ===== -/
/-- across of a side at the height y and a half, times twice its rise -/
def sA (lx ly hx hy y : Int) : Int := 2 * lx * (hy - ly) + (hx - lx) * (2 * (y - ly) + 1)
/-- a cell lies left of a side that goes up from l to h -/
def sSd (lx ly hx hy x y : Int) : Bool := decide (ly ≤ y ∧ y < hy ∧ (2 * x + 1) * (hy - ly) < sA lx ly hx hy y)
theorem mul_bd {a b A B : Int} (ha : -A ≤ a ∧ a ≤ A) (hb : -B ≤ b ∧ b ≤ B) (hA : 0 ≤ A) (hB : 0 ≤ B) : -(A * B) ≤ a * b ∧ a * b ≤ A * B := by
  have h1 : (a * b).natAbs ≤ (A * B).natAbs := by
    rw [Int.natAbs_mul, Int.natAbs_mul]
    exact Nat.mul_le_mul (by omega) (by omega)
  have h2 : 0 ≤ A * B := Int.mul_nonneg hA hB
  omega
def oAcr (lx ly hx hy y : Int32) : Int32 := 2 * lx * (hy - ly) + (hx - lx) * (2 * (y - ly) + 1)
def oLeft (lx ly hx hy y : Int32) : Int32 := f_Math_max 0 (f_Math_min 30 ((f_Math_floorDiv (oAcr lx ly hx hy y - 1) (hy - ly) + 1) >>> ((1 : Int32) &&& 31)))
theorem oAcr_t {lx ly hx hy y : Int32} (h1 : inR lx (-309) 309) (h2 : inR ly (-309) 309) (h3 : inR hx (-309) 309) (h4 : inR hy (-309) 309) (hy0 : inR y (-309) 309) : (oAcr lx ly hx hy y).toInt = sA lx.toInt ly.toInt hx.toInt hy.toInt y.toInt ∧ -2000000 ≤ sA lx.toInt ly.toInt hx.toInt hy.toInt y.toInt ∧ sA lx.toInt ly.toInt hx.toInt hy.toInt y.toInt ≤ 2000000 ∧ (hy - ly).toInt = hy.toInt - ly.toInt := by
  obtain ⟨a1, a2⟩ := h1
  obtain ⟨b1, b2⟩ := h2
  obtain ⟨c1, c2⟩ := h3
  obtain ⟨d1, d2⟩ := h4
  obtain ⟨e1, e2⟩ := hy0
  have t2 : (2 : Int32).toInt = 2 := rfl
  have t1 : (1 : Int32).toInt = 1 := rfl
  have q1 : (2 * lx).toInt = 2 * lx.toInt := by rw [iMul (by rw [t2]; omega), t2]
  have q2 : (hy - ly).toInt = hy.toInt - ly.toInt := iSub (by omega)
  have q3 : (hx - lx).toInt = hx.toInt - lx.toInt := iSub (by omega)
  have q4 : (y - ly).toInt = y.toInt - ly.toInt := iSub (by omega)
  have q5 : (2 * (y - ly)).toInt = 2 * (y.toInt - ly.toInt) := by rw [iMul (by rw [t2, q4]; omega), t2, q4]
  have q6 : (2 * (y - ly) + 1).toInt = 2 * (y.toInt - ly.toInt) + 1 := by rw [iAdd (by rw [q5, t1]; omega), q5, t1]
  have m1 := mul_bd (a := 2 * lx.toInt) (b := hy.toInt - ly.toInt) (A := 618) (B := 618) (by omega) (by omega) (by decide) (by decide)
  have m2 := mul_bd (a := hx.toInt - lx.toInt) (b := 2 * (y.toInt - ly.toInt) + 1) (A := 618) (B := 1237) (by omega) (by omega) (by decide) (by decide)
  have q7 : (2 * lx * (hy - ly)).toInt = 2 * lx.toInt * (hy.toInt - ly.toInt) := by rw [iMul (by rw [q1, q2]; omega), q1, q2]
  have q8 : ((hx - lx) * (2 * (y - ly) + 1)).toInt = (hx.toInt - lx.toInt) * (2 * (y.toInt - ly.toInt) + 1) := by rw [iMul (by rw [q3, q6]; omega), q3, q6]
  unfold oAcr sA
  refine ⟨?_, by omega, by omega, q2⟩
  rw [iAdd (by rw [q7, q8]; omega), q7, q8]
theorem oLeft_ok {lx ly hx hy y : Int32} (h1 : inR lx (-309) 309) (h2 : inR ly (-309) 309) (h3 : inR hx (-309) 309) (h4 : inR hy (-309) 309) (hy0 : inR y (-309) 309) (hr : ly.toInt < hy.toInt) : ∃ L, L ≤ 30 ∧ oLeft lx ly hx hy y = nI L ∧ ∀ x : Nat, x < 30 → (x < L ↔ (2 * (x : Int) + 1) * (hy.toInt - ly.toInt) < sA lx.toInt ly.toInt hx.toInt hy.toInt y.toInt) := by
  obtain ⟨ea, b1, b2, er⟩ := oAcr_t h1 h2 h3 h4 hy0
  generalize sA lx.toInt ly.toInt hx.toInt hy.toInt y.toInt = Ac at ea b1 b2 ⊢
  have hrise : 0 < hy.toInt - ly.toInt := by omega
  have hrise2 : hy.toInt - ly.toInt ≤ 618 := by
    have := h2.1; have := h4.2
    omega
  generalize hy.toInt - ly.toInt = r at er hrise hrise2 ⊢
  have t1 : (1 : Int32).toInt = 1 := rfl
  have f1 : (oAcr lx ly hx hy y - 1).toInt = Ac - 1 := by rw [iSub (by rw [ea, t1]; omega), ea, t1]
  have f2 : (f_Math_floorDiv (oAcr lx ly hx hy y - 1) (hy - ly)).toInt = (Ac - 1) / r := by
    rw [floorDiv_t (by rw [er]; exact hrise) (by rw [f1]; omega), f1, er]
  have f3 : -2000001 ≤ (Ac - 1) / r ∧ (Ac - 1) / r ≤ 2000000 := by
    constructor
    · rw [Int.le_ediv_iff_mul_le hrise]
      have := Int.mul_le_mul_of_nonneg_left (show (1 : Int) ≤ r by omega) (show (0 : Int) ≤ 2000001 by decide)
      omega
    · have : (Ac - 1) / r < 2000001 := by
        rw [Int.ediv_lt_iff_lt_mul hrise]
        have := Int.mul_le_mul_of_nonneg_left (show (1 : Int) ≤ r by omega) (show (0 : Int) ≤ 2000001 by decide)
        omega
      omega
  have f4 : (f_Math_floorDiv (oAcr lx ly hx hy y - 1) (hy - ly) + 1).toInt = (Ac - 1) / r + 1 := by rw [iAdd (by rw [f2, t1]; omega), f2, t1]
  have f5 : ((f_Math_floorDiv (oAcr lx ly hx hy y - 1) (hy - ly) + 1) >>> ((1 : Int32) &&& 31)).toInt = ((Ac - 1) / r + 1) / 2 := by
    rw [pk_shr _ _ 1 (by decide), f4, Int.shiftRight_eq_div_pow]
    rfl
  have key : ∀ x : Nat, ((x : Int) < ((Ac - 1) / r + 1) / 2 ↔ (2 * (x : Int) + 1) * r < Ac) := by
    intro x
    have h : (2 * (x : Int) + 1 ≤ (Ac - 1) / r) ↔ (2 * (x : Int) + 1) * r ≤ Ac - 1 := Int.le_ediv_iff_mul_le hrise
    constructor
    · intro q
      have := h.mp (by omega)
      omega
    · intro q
      have := h.mpr (by omega)
      omega
  unfold oLeft
  generalize (f_Math_floorDiv (oAcr lx ly hx hy y - 1) (hy - ly) + 1) >>> ((1 : Int32) &&& 31) = l0 at f5 ⊢
  have t30 : (30 : Int32).toInt = 30 := rfl
  have t0 : (0 : Int32).toInt = 0 := rfl
  unfold f_Math_max f_Math_min
  by_cases c1 : l0 < 30
  · rw [if_pos c1]
    have c1' := iLt.mp c1
    rw [t30] at c1'
    by_cases c2 : 0 < l0
    · rw [if_pos c2]
      have c2' := iLt.mp c2
      rw [t0] at c2'
      refine ⟨l0.toInt.toNat, by omega, nI_ofInt (by omega), fun x hx => ?_⟩
      rw [← key x]
      omega
    · rw [if_neg c2]
      have c2' : ¬ 0 < l0.toInt := fun q => c2 (iLt.mpr (by rw [t0]; exact q))
      refine ⟨0, by omega, rfl, fun x hx => ?_⟩
      rw [← key x]
      omega
  · rw [if_neg c1, if_pos (by decide : (0 : Int32) < 30)]
    have c1' : ¬ l0.toInt < 30 := fun q => c1 (iLt.mpr (by rw [t30]; exact q))
    refine ⟨30, by omega, rfl, fun x hx => ?_⟩
    rw [← key x]
    omega
theorem max_t (a b : Int32) : (f_Math_max a b).toInt = if a.toInt < b.toInt then b.toInt else a.toInt := by
  unfold f_Math_max
  by_cases h : a < b
  · rw [if_pos h, if_pos (iLt.mp h)]
  · rw [if_neg h, if_neg (fun q => h (iLt.mpr q))]
theorem min_t (a b : Int32) : (f_Math_min a b).toInt = if b.toInt < a.toInt then b.toInt else a.toInt := by
  unfold f_Math_min
  by_cases h : b < a
  · rw [if_pos h, if_pos (iLt.mp h)]
  · rw [if_neg h, if_neg (fun q => h (iLt.mpr q))]
def Q_side (M : oM) (r : Nat) (lx ly hx hy : Int32) : Option Int32 → oM → Prop := fun o M' => o = none ∧ (∀ y, y < 30 → ∀ x, tb (M' K_HROW r y) x = Bool.xor (tb (M K_HROW r y) x) (decide (x < 30) && sSd lx.toInt ly.toInt hx.toInt hy.toInt x y)) ∧ oFr (oKi K_HROW r) M M'
theorem c_Cells_addSide (M : oM) (c r : Nat) (lx ly hx hy : Int32) (h1 : inR lx (-309) 309) (h2 : inR ly (-309) 309) (h3 : inR hx (-309) 309) (h4 : inR hy (-309) 309) : oCt 1 k_Cells_addSide [.inr (K_CELLS, c), .inr (K_HROW, r), .inl lx, .inl ly, .inl hx, .inl hy] M (Q_side M r lx ly hx hy) := by
  have t30 : (30 : Int32).toInt = 30 := rfl
  have t0 : (0 : Int32).toInt = 0 := rfl
  have er : (hy - ly).toInt = hy.toInt - ly.toInt := (oAcr_t h1 h2 h3 h4 h4).2.2.2
  refine oCt.of (ls := [some (.inr (K_CELLS, c)), some (.inr (K_HROW, r)), some (.inl lx), some (.inl ly), some (.inl hx), some (.inl hy), none, none, none, none, none, none]) mok_Cells_addSide rfl rfl ?_
  refine oRun_ok 5 rfl ?_
  refine g_if_gt rfl (fun h8 => ?_) (fun h8 => ?_)
  · have hr : ly.toInt < hy.toInt := by
      have := iLt.mp h8
      rw [er, t0] at this
      omega
    refine oRun_ok 2 rfl ?_
    refine g_callS rfl rfl rfl rfl mok_Math_min (by decide) (c_Math_min M _ _) ?_
    rintro r16 M16 ⟨rfl, e⟩; rw [e]
    refine oRun_ok 3 rfl ?_
    refine g_callS rfl rfl rfl rfl mok_Math_max (by decide) (c_Math_max M _ _) ?_
    rintro r23 M23 ⟨rfl, e⟩; rw [e]
    refine oRun_ok 1 rfl ?_
    have hend := min_t hy 30
    have hbeg := max_t ly 0
    rw [t30] at hend
    rw [t0] at hbeg
    generalize f_Math_min hy 30 = en at hend ⊢
    have loop : ∀ (q : Nat) (y : Int32) (M1 : oM) (x9 x10 x11 : Option oV), (y.toInt : Int) + q = 31 → 0 ≤ y.toInt → ly.toInt ≤ y.toInt → (∀ y', y' < 30 → ∀ x, tb (M1 K_HROW r y') x = Bool.xor (tb (M K_HROW r y') x) (decide ((y' : Int) < y.toInt) && (decide (x < 30) && sSd lx.toInt ly.toInt hx.toInt hy.toInt x y'))) → oFr (oKi K_HROW r) M M1 → oG k_Cells_addSide 1 28 [some (.inr (K_CELLS, c)), some (.inr (K_HROW, r)), some (.inl lx), some (.inl ly), some (.inl hx), some (.inl hy), some (.inl (hy - ly)), some (.inl en), some (.inl y), x9, x10, x11] [] M1 (Q_side M r lx ly hx hy) := by
      intro q
      induction q with
      | zero =>
        intro y M1 x9 x10 x11 hq hy0 hly hb hf
        refine oRun_ok 2 rfl ?_
        refine g_ic_ge rfl (fun h32 => ?_) (fun h32 => ?_)
        · refine g_ret rfl rfl ⟨rfl, fun y' hy' x => ?_, hf⟩
          rw [hb y' hy' x, decide_eq_true (show (y' : Int) < y.toInt by omega), Bool.true_and]
        · exact absurd (iLe.mpr (by rw [hend]; split <;> omega)) h32
      | succ q ih =>
        intro y M1 x9 x10 x11 hq hy0 hly hb hf
        refine oRun_ok 2 rfl ?_
        refine g_ic_ge rfl (fun h32 => ?_) (fun h32 => ?_)
        · have h32' := iLe.mp h32
          rw [hend] at h32'
          refine g_ret rfl rfl ⟨rfl, fun y' hy' x => ?_, hf⟩
          rw [hb y' hy' x]
          by_cases hlt : (y' : Int) < y.toInt
          · rw [decide_eq_true hlt, Bool.true_and]
          · rw [decide_eq_false hlt, Bool.false_and]
            have : sSd lx.toInt ly.toInt hx.toInt hy.toInt x y' = false := by
              unfold sSd
              refine decide_eq_false (fun z => ?_)
              split at h32' <;> omega
            rw [this, Bool.and_false]
        · have h32' : y.toInt < en.toInt := by
            have := Int32.not_le.mp h32
            exact iLt.mp this
          rw [hend] at h32'
          have hy30 : y.toInt < 30 ∧ y.toInt < hy.toInt := by split at h32' <;> omega
          obtain ⟨L, hL, eL, kL⟩ := oLeft_ok (y := y) h1 h2 h3 h4 ⟨by omega, by omega⟩ hr
          have ey : y = nI y.toInt.toNat := nI_ofInt hy0
          generalize hY : y.toInt.toNat = Y at ey
          have hYi : y.toInt = (Y : Int) := by omega
          refine oRun_ok 22 rfl ?_
          refine g_callS rfl rfl rfl rfl mok_Math_floorDiv (by decide) (c_Math_floorDiv M1 _ _ (fun z => by rw [iEq, er, t0] at z; omega)) ?_
          rintro r63 M63 ⟨rfl, e⟩; rw [e]
          refine oRun_ok 8 rfl ?_
          refine g_callS rfl rfl rfl rfl mok_Math_min (by decide) (c_Math_min M1 _ _) ?_
          rintro r77 M77 ⟨rfl, e⟩; rw [e]
          refine g_callS rfl rfl rfl rfl mok_Math_max (by decide) (c_Math_max M1 _ _) ?_
          rintro r80 M80 ⟨rfl, e⟩; rw [e]
          rw [show f_Math_max 0 (f_Math_min 30 ((f_Math_floorDiv (2 * lx * (hy - ly) + (hx - lx) * (2 * (y - ly) + 1) - 1) (hy - ly) + 1) >>> ((1 : Int32) &&& 31))) = nI L from eL]
          refine oRun_ok 4 rfl ?_
          refine g_iald Y rfl rfl ey (by omega) ?_
          refine oRun_ok 6 rfl ?_
          refine g_iast Y rfl rfl ey (by omega) ?_
          refine oRun_ok 2 rfl ?_
          have hy1 : (y + 1).toInt = y.toInt + 1 := by
            have t1 : (1 : Int32).toInt = 1 := rfl
            rw [iAdd (by rw [t1]; omega), t1]
          refine ih (y + 1) _ _ _ _ (by rw [hy1]; omega) (by omega) (by omega) (fun y' hy' x => ?_) (hf.up ⟨rfl, rfl⟩)
          rw [hy1]
          by_cases hyy : y' = Y
          · subst hyy
            show tb (oUp M1 14 r y' _ 14 r y') x = _
            rw [oUp_self, tb_xor, tb_mask hL, show M1 14 r y' = M1 K_HROW r y' from rfl, hb y' hy' x, decide_eq_false (show ¬ (y' : Int) < y.toInt by omega), Bool.false_and, Bool.xor_false, decide_eq_true (show (y' : Int) < y.toInt + 1 by omega), Bool.true_and]
            congr 1
            by_cases hx30 : x < 30
            · rw [decide_eq_true hx30, Bool.true_and]
              unfold sSd
              rw [hYi] at kL
              have := kL x hx30
              by_cases hxL : x < L
              · rw [decide_eq_true hxL, decide_eq_true ⟨by omega, by omega, this.mp hxL⟩]
              · rw [decide_eq_false hxL, decide_eq_false (fun z => hxL (this.mpr z.2.2))]
            · rw [decide_eq_false hx30, Bool.false_and, decide_eq_false (by omega)]
          · show tb (oUp M1 14 r Y _ 14 r y') x = _
            rw [oUp_j hyy, show M1 14 r y' = M1 K_HROW r y' from rfl, hb y' hy' x]
            have : decide ((y' : Int) < y.toInt) = decide ((y' : Int) < y.toInt + 1) := by
              by_cases z : (y' : Int) < y.toInt
              · rw [decide_eq_true z, decide_eq_true (by omega)]
              · rw [decide_eq_false z, decide_eq_false (by omega)]
            rw [this]
    have hb0 : 0 ≤ (f_Math_max ly 0).toInt ∧ ly.toInt ≤ (f_Math_max ly 0).toInt ∧ ((f_Math_max ly 0).toInt = ly.toInt ∨ (f_Math_max ly 0).toInt = 0) := by
      rw [hbeg]
      split <;> omega
    by_cases hbig : (f_Math_max ly 0).toInt ≤ 31
    · refine loop (31 - (f_Math_max ly 0).toInt).toNat _ M _ _ _ (by omega) hb0.1 hb0.2.1 (fun y' hy' x => ?_) oFr.rf
      have hn : (decide ((y' : Int) < (f_Math_max ly 0).toInt) && (decide (x < 30) && sSd lx.toInt ly.toInt hx.toInt hy.toInt x y')) = false := by
        by_cases z : (y' : Int) < (f_Math_max ly 0).toInt
        · have : sSd lx.toInt ly.toInt hx.toInt hy.toInt x y' = false := by
            unfold sSd
            refine decide_eq_false (fun zz => ?_)
            omega
          rw [this, Bool.and_false, Bool.and_false]
        · rw [decide_eq_false z, Bool.false_and]
      rw [hn, Bool.xor_false]
    · refine oRun_ok 2 rfl ?_
      refine g_ic_ge rfl (fun h32 => ?_) (fun h32 => absurd (iLe.mpr (by rw [hend]; split <;> omega)) h32)
      refine g_ret rfl rfl ⟨rfl, fun y' hy' x => ?_, oFr.rf⟩
      have : sSd lx.toInt ly.toInt hx.toInt hy.toInt x y' = false := by
        unfold sSd
        refine decide_eq_false (fun z => ?_)
        omega
      rw [this, Bool.and_false, Bool.xor_false]
  · refine g_ret rfl rfl ⟨rfl, fun y' hy' x => ?_, oFr.rf⟩
    have : sSd lx.toInt ly.toInt hx.toInt hy.toInt x y' = false := by
      unfold sSd
      refine decide_eq_false (fun z => h8 (iLt.mpr (by rw [er, t0]; omega)))
    rw [this, Bool.and_false, Bool.xor_false]
