/-! ===== numbers ===== -/
def bI (b : Bool) : Int32 := if b then 1 else 0
theorem bI_0 {P : Prop} [Decidable P] : bI (decide P) = 0 ↔ ¬ P := by
  unfold bI
  by_cases h : P <;> simp [h]
theorem bI_1 {P : Prop} [Decidable P] : bI (decide P) = 1 ↔ P := by
  unfold bI
  by_cases h : P <;> simp [h]
theorem bI_t {P : Prop} [Decidable P] (h : P) : bI (decide P) = 1 := bI_1.mpr h
theorem bI_f {P : Prop} [Decidable P] (h : ¬ P) : bI (decide P) = 0 := bI_0.mpr h
theorem bI_n (b : Bool) : narrow .boolean (.int (bI b)) = .int (bI b) := by cases b <;> rfl
theorem iLe {a b : Int32} : a ≤ b ↔ a.toInt ≤ b.toInt := Int32.le_iff_toInt_le
theorem iLt {a b : Int32} : a < b ↔ a.toInt < b.toInt := Int32.lt_iff_toInt_lt
theorem iEq {a b : Int32} : a = b ↔ a.toInt = b.toInt := Int32.toInt_inj.symm
theorem iRng (a : Int32) : -2147483648 ≤ a.toInt ∧ a.toInt < 2147483648 := by
  have h1 := Int32.le_toInt a
  have h2 := Int32.toInt_lt a
  omega
theorem bmod_id {x : Int} (h1 : -2147483648 ≤ x) (h2 : x < 2147483648) : x.bmod (2 ^ 32) = x := by
  rw [Int.bmod_eq_of_le] <;> omega
theorem iAdd {a b : Int32} (h : -2147483648 ≤ a.toInt + b.toInt ∧ a.toInt + b.toInt < 2147483648) : (a + b).toInt = a.toInt + b.toInt := by
  rw [Int32.toInt_add, bmod_id h.1 h.2]
theorem iSub {a b : Int32} (h : -2147483648 ≤ a.toInt - b.toInt ∧ a.toInt - b.toInt < 2147483648) : (a - b).toInt = a.toInt - b.toInt := by
  rw [Int32.toInt_sub, bmod_id h.1 h.2]
theorem iMul {a b : Int32} (h : -2147483648 ≤ a.toInt * b.toInt ∧ a.toInt * b.toInt < 2147483648) : (a * b).toInt = a.toInt * b.toInt := by
  rw [Int32.toInt_mul, bmod_id h.1 h.2]
theorem iNeg {a : Int32} (h : -2147483648 < a.toInt) : (-a).toInt = -a.toInt := by
  rw [Int32.toInt_neg, bmod_id (by have := iRng a; omega) (by omega)]
theorem iDiv {a b : Int32} (h : -2147483648 < a.toInt ∨ b.toInt ≠ -1) : (a / b).toInt = a.toInt.tdiv b.toInt := by
  rw [Int32.toInt_div]
  have ha := iRng a
  have hb := iRng b
  by_cases h1 : b.toInt = -1
  · rw [h1, Int.tdiv_neg, Int.tdiv_one, bmod_id] <;> omega
  · have hx : (a.toInt.tdiv b.toInt).natAbs ≤ a.toInt.natAbs := by
      rw [Int.natAbs_tdiv]
      exact Nat.div_le_self _ _
    by_cases h2 : a.toInt = -2147483648
    · by_cases h3 : b.toInt = 0
      · rw [h3, Int.tdiv_zero]
        rfl
      · by_cases h4 : b.toInt = 1
        · rw [h4, Int.tdiv_one, bmod_id] <;> omega
        · have hy : (a.toInt.tdiv b.toInt).natAbs ≤ 1073741824 := by
            rw [Int.natAbs_tdiv]
            have : 2 ≤ b.toInt.natAbs := by omega
            exact Nat.le_trans (Nat.div_le_div_left this (by omega)) (by rw [h2]; decide)
          rw [bmod_id] <;> omega
    · rw [bmod_id] <;> omega
theorem nI_ofInt {v : Int32} (h : 0 ≤ v.toInt) : v = nI v.toInt.toNat := by
  have := iRng v
  rw [iEq, nI_toInt (show v.toInt.toNat < 2 ^ 31 by omega)]
  omega
/-- a number that is not below 0 and below n -/
theorem nI_ex {v : Int32} {n : Nat} (h : 0 ≤ v.toInt) (h2 : v.toInt < n) : ∃ j, j < n ∧ v = nI j := ⟨v.toInt.toNat, by omega, nI_ofInt h⟩
theorem nIt {n : Nat} (h : n < 2147483648) : (nI n).toInt = n := nI_toInt (h)
theorem nIc {n : Nat} (h : n < 2147483648) : (nI n).toNatClampNeg = n := nI_clamp (h)
theorem nIe {a b : Nat} (ha : a < 2147483648) (hb : b < 2147483648) : nI a = nI b ↔ a = b := nI_eq ha hb
theorem nIle {a b : Nat} (ha : a < 2147483648) (hb : b < 2147483648) : nI a ≤ nI b ↔ a ≤ b := nI_leI ha hb
theorem nIlt {a b : Nat} (ha : a < 2147483648) (hb : b < 2147483648) : nI a < nI b ↔ a < b := nI_ltI ha hb
theorem nIdiv {a d : Nat} (ha : a < 2147483648) (h0 : 0 < d) (hd : d < 2147483648) : nI a / nI d = nI (a / d) := pk_div ha h0 hd
theorem nIrem {a d : Nat} (ha : a < 2147483648) (h0 : 0 < d) (hd : d < 2147483648) : oRem (nI a) (nI d) = nI (a % d) := pk_rem ha h0 hd
theorem nIsub {a b : Nat} (h : b ≤ a) : nI a - nI b = nI (a - b) := pk_sub h
theorem oRem_toInt {a b : Int32} (hb : ¬ b = 0) : (oRem a b).toInt = a.toInt.tmod b.toInt := by
  unfold oRem
  have ha := iRng a
  have hb' := iRng b
  have hb0 : b.toInt ≠ 0 := fun h => hb (iEq.mpr (by rw [h]; rfl))
  have key : (a.toInt - a.toInt.tdiv b.toInt * b.toInt) = a.toInt.tmod b.toInt := by
    rw [Int.tmod_def, Int.mul_comm]
  have hm1 : (a.toInt.tmod b.toInt).natAbs < b.toInt.natAbs := by
    rw [Int.natAbs_tmod]
    exact Nat.mod_lt _ (by omega)
  by_cases h : -2147483648 < a.toInt ∨ b.toInt ≠ -1
  · have hd := iDiv h
    have hq : (a.toInt.tdiv b.toInt * b.toInt).natAbs ≤ a.toInt.natAbs := by
      rw [Int.natAbs_mul, Int.natAbs_tdiv]
      exact Nat.div_mul_le_self _ _
    have hmul : ((a / b) * b).toInt = a.toInt.tdiv b.toInt * b.toInt ∨ ((a / b) * b).toInt = a.toInt.tdiv b.toInt * b.toInt - 4294967296 := by
      by_cases h5 : a.toInt.tdiv b.toInt * b.toInt < 2147483648
      · left
        rw [iMul (by rw [hd]; omega), hd]
      · right
        have h6 : a.toInt.tdiv b.toInt * b.toInt = 2147483648 := by omega
        rw [Int32.toInt_mul, hd, h6]
        rfl
    rw [Int32.toInt_sub]
    rcases hmul with h7 | h7
    · rw [h7, key, bmod_id] <;> omega
    · rw [h7, show a.toInt - (a.toInt.tdiv b.toInt * b.toInt - 4294967296) = a.toInt.tmod b.toInt + 4294967296 by omega]
      rw [show (4294967296 : Int) = ((2 ^ 32 : Nat) : Int) by decide, Int.add_bmod_right, bmod_id] <;> omega
  · have ha0 : a = -2147483648 := iEq.mpr (by have : (-2147483648 : Int32).toInt = -2147483648 := rfl
                                              omega)
    have hb1 : b = -1 := iEq.mpr (by have : (-1 : Int32).toInt = -1 := rfl
                                     omega)
    subst ha0
    subst hb1
    rfl
