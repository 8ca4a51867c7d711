/-! ===== an array of arrays: the row of the machine ===== -/
theorem yMul_row : yMulW := by sorry
theorem yMul_ok : yMulP := yMul_of yMul_row
