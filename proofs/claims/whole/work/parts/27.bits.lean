/-! ===== numbers of cells ===== -/
def tb (v : Int32) (x : Nat) : Bool := v.toBitVec.getLsbD x
theorem tb_xor (a b : Int32) (x : Nat) : tb (a ^^^ b) x = Bool.xor (tb a x) (tb b x) := by
  unfold tb
  rw [Int32.toBitVec_xor, BitVec.getLsbD_xor]
theorem tb_and (a b : Int32) (x : Nat) : tb (a &&& b) x = (tb a x && tb b x) := by
  unfold tb
  rw [Int32.toBitVec_and, BitVec.getLsbD_and]
theorem tb_or (a b : Int32) (x : Nat) : tb (a ||| b) x = (tb a x || tb b x) := by
  unfold tb
  rw [Int32.toBitVec_or, BitVec.getLsbD_or]
theorem tb_nI {n x : Nat} (hx : x < 32) : tb (nI n) x = n.testBit x := by
  show (BitVec.ofNat 32 n).getLsbD x = _
  rw [BitVec.getLsbD_ofNat]
  simp [hx]
theorem tb_hi {v : Int32} {x : Nat} (h : 32 ≤ x) : tb v x = false := BitVec.getLsbD_of_ge _ _ h
theorem mask_eq : ∀ L : Fin 31, ((1 : Int32) <<< (nI L.val &&& 31)) - 1 = nI (2 ^ L.val - 1) := by decide +kernel
theorem tb_mask {L : Nat} (hL : L ≤ 30) (x : Nat) : tb (((1 : Int32) <<< (nI L &&& 31)) - 1) x = decide (x < L) := by
  rw [mask_eq ⟨L, by omega⟩]
  by_cases hx : x < 32
  · rw [tb_nI hx, Nat.testBit_two_pow_sub_one]
  · rw [tb_hi (by omega)]
    exact (decide_eq_false (by omega)).symm
theorem neg_msb (v : Int32) : v.toBitVec.msb = decide (v.toInt < 0) := BitVec.msb_eq_toInt
theorem xor_nonneg {a b : Int32} (hb : 0 ≤ b.toInt) : 0 ≤ a ^^^ b ↔ 0 ≤ a.toInt := by
  have h1 := neg_msb (a ^^^ b)
  rw [Int32.toBitVec_xor, BitVec.msb_xor, neg_msb, neg_msb, decide_eq_false (show ¬ b.toInt < 0 by omega)] at h1
  rw [iLe, show (0 : Int32).toInt = 0 from rfl]
  by_cases ha : a.toInt < 0
  · rw [decide_eq_true ha] at h1
    have : (a ^^^ b).toInt < 0 := by simpa using h1.symm
    omega
  · rw [decide_eq_false ha] at h1
    have : ¬ (a ^^^ b).toInt < 0 := by simpa using h1.symm
    omega
theorem floorDiv_t {a b : Int32} (hb : 0 < b.toInt) (ha : -2147483648 < a.toInt) : (f_Math_floorDiv a b).toInt = a.toInt / b.toInt := by
  have hq : (a / b).toInt = a.toInt.tdiv b.toInt := iDiv (Or.inl ha)
  have hra := iRng a
  have hrb := iRng b
  have habs : (a.toInt.tdiv b.toInt).natAbs ≤ a.toInt.natAbs := by
    rw [Int.natAbs_tdiv]
    exact Nat.div_le_self _ _
  have hmulabs : (a.toInt.tdiv b.toInt * b.toInt).natAbs ≤ a.toInt.natAbs := by
    rw [Int.natAbs_mul, Int.natAbs_tdiv]
    exact Nat.div_mul_le_self _ _
  have hm : ((a / b) * b).toInt = a.toInt.tdiv b.toInt * b.toInt := by rw [iMul (by rw [hq]; omega), hq]
  unfold f_Math_floorDiv
  by_cases h0 : 0 ≤ a ^^^ b
  · rw [if_pos h0, hq]
    exact Int.tdiv_eq_ediv_of_nonneg ((xor_nonneg (by omega)).mp h0)
  · have hneg : a.toInt < 0 := by
      have : ¬ 0 ≤ a.toInt := fun q => h0 ((xor_nonneg (by omega)).mpr q)
      omega
    rw [if_neg h0]
    by_cases h1 : (a / b) * b = a
    · rw [if_pos h1, hq]
      have h2 : a.toInt.tdiv b.toInt * b.toInt = a.toInt := by rw [← hm, h1]
      have : a.toInt / b.toInt = a.toInt.tdiv b.toInt := by
        conv => lhs; rw [← h2]
        exact Int.mul_ediv_cancel _ (by omega)
      exact this.symm
    · rw [if_neg h1]
      have e1 : (1 : Int32).toInt = 1 := rfl
      have hne : a.toInt.tdiv b.toInt * b.toInt ≠ a.toInt := fun q => h1 (iEq.mpr (by rw [hm, q]))
      rw [iSub (by rw [hq, e1]; omega), hq, e1]
      have hmod : a.toInt - b.toInt * a.toInt.tdiv b.toInt = a.toInt.tmod b.toInt := (Int.tmod_def _ _).symm
      rw [Int.mul_comm] at hmod
      have hlt : (a.toInt.tmod b.toInt).natAbs < b.toInt.natAbs := by
        rw [Int.natAbs_tmod]
        exact Nat.mod_lt _ (by omega)
      have hle : a.toInt.tmod b.toInt ≤ 0 := by
        have hsub : a.toInt.tdiv b.toInt * b.toInt ≤ 0 ∨ 0 < a.toInt.tdiv b.toInt * b.toInt := by omega
        have h3 : (a.toInt.tdiv b.toInt * b.toInt).natAbs ≤ a.toInt.natAbs := hmulabs
        omega
      have h4 : (a.toInt.tdiv b.toInt - 1) * b.toInt = a.toInt.tdiv b.toInt * b.toInt - b.toInt := by rw [Int.sub_mul, Int.one_mul]
      have h5 : a.toInt.tdiv b.toInt * b.toInt = (a.toInt.tdiv b.toInt - 1 + 1) * b.toInt := by rw [Int.sub_add_cancel]
      symm
      rw [Int.ediv_eq_iff_of_pos hb]
      constructor
      · rw [h4]; omega
      · rw [h4]; omega
