/-! ===== a side, as the model looks at it ===== -/
def sAtM (px p2 qx q2 x y : Int) : Int := (2 * y + 1 - 2 * p2) * (qx - px) + (2 * px - 2 * x - 1) * (q2 - p2)
theorem sAt_up (px p2 qx q2 x y : Int) : sAtM px p2 qx q2 x y = sA px p2 qx q2 y - (2 * x + 1) * (q2 - p2) := by
  unfold sAtM sA
  generalize hr : q2 - p2 = r
  generalize hs : qx - px = s
  have e1 : (2 * px - 2 * x - 1) * r = 2 * px * r - (2 * x + 1) * r := by rw [← Int.sub_mul]; congr 1; omega
  have e2 : (2 * y + 1 - 2 * p2) * s = s * (2 * (y - p2) + 1) := by rw [Int.mul_comm]; congr 1; omega
  rw [e1, e2]
  omega
theorem sAt_down (px p2 qx q2 x y : Int) : sAtM px p2 qx q2 x y = (2 * x + 1) * (p2 - q2) - sA qx q2 px p2 y := by
  unfold sAtM sA
  have h1 : q2 - p2 = -(p2 - q2) := by omega
  have h2 : qx - px = -(px - qx) := by omega
  have h3 : 2 * y + 1 - 2 * p2 = (2 * (y - q2) + 1) - 2 * (p2 - q2) := by omega
  have h4 : 2 * px - 2 * x - 1 = 2 * (px - qx) + 2 * qx - (2 * x + 1) := by omega
  rw [h1, h2, h3, h4]
  generalize p2 - q2 = r
  generalize px - qx = s
  generalize 2 * (y - q2) + 1 = w
  generalize 2 * x + 1 = v
  have e1 : (w - 2 * r) * -s = -(s * w) + 2 * (r * s) := by
    rw [Int.mul_neg, Int.sub_mul, Int.mul_comm w s, Int.mul_assoc]
    omega
  have e2 : (2 * s + 2 * qx - v) * -r = -(2 * (r * s)) - 2 * qx * r + v * r := by
    rw [Int.mul_neg, Int.sub_mul, Int.add_mul, Int.mul_assoc 2 s r, Int.mul_comm s r]
    omega
  rw [e1, e2]
  omega
theorem sOne_eq (px p2 qx q2 x y : Int) : sOne px p2 qx q2 x y = true ↔ ¬ (p2 ≤ y ↔ q2 ≤ y) ∧ ((0 < q2 - p2 ∧ 0 < sAtM px p2 qx q2 x y) ∨ (¬ 0 < q2 - p2 ∧ sAtM px p2 qx q2 x y < 0)) := by
  unfold sOne sSd
  by_cases h : p2 < q2
  · rw [if_pos h, sAt_up, decide_eq_true_eq]
    constructor
    · rintro ⟨a1, a2, a3⟩
      exact ⟨by omega, Or.inl ⟨by omega, by omega⟩⟩
    · rintro ⟨a1, ⟨a2, a3⟩ | ⟨a2, a3⟩⟩
      · exact ⟨by omega, by omega, by omega⟩
      · omega
  · rw [if_neg h, sAt_down, decide_eq_true_eq]
    constructor
    · rintro ⟨a1, a2, a3⟩
      exact ⟨by omega, Or.inr ⟨by omega, by omega⟩⟩
    · rintro ⟨a1, ⟨a2, a3⟩ | ⟨a2, a3⟩⟩
      · omega
      · exact ⟨by omega, by omega, by omega⟩
