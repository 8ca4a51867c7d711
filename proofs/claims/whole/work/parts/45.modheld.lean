/-! ===== Model: isHeld ===== -/
def oAtM (px p2 qx q2 x y : Int32) : Int32 := (2 * y + 1 - 2 * p2) * (qx - px) + (2 * px - 2 * x - 1) * (q2 - p2)
theorem oAtM_t {px p2 qx q2 x y : Int32} (h1 : inR px (-309) 309) (h2 : inR p2 (-309) 309) (h3 : inR qx (-309) 309) (h4 : inR q2 (-309) 309) (hx : inR x 0 29) (hy : inR y 0 29) : (oAtM px p2 qx q2 x y).toInt = sAtM px.toInt p2.toInt qx.toInt q2.toInt x.toInt y.toInt ∧ (q2 - p2).toInt = q2.toInt - p2.toInt := by
  obtain ⟨a1, a2⟩ := h1
  obtain ⟨b1, b2⟩ := h2
  obtain ⟨c1, c2⟩ := h3
  obtain ⟨d1, d2⟩ := h4
  obtain ⟨e1, e2⟩ := hx
  obtain ⟨f1, f2⟩ := hy
  have t2 : (2 : Int32).toInt = 2 := rfl
  have t1 : (1 : Int32).toInt = 1 := rfl
  have q1 : (2 * y).toInt = 2 * y.toInt := by rw [iMul (by rw [t2]; omega), t2]
  have q2' : (2 * y + 1).toInt = 2 * y.toInt + 1 := by rw [iAdd (by rw [q1, t1]; omega), q1, t1]
  have q3 : (2 * p2).toInt = 2 * p2.toInt := by rw [iMul (by rw [t2]; omega), t2]
  have q4 : (2 * y + 1 - 2 * p2).toInt = 2 * y.toInt + 1 - 2 * p2.toInt := by rw [iSub (by rw [q2', q3]; omega), q2', q3]
  have q5 : (qx - px).toInt = qx.toInt - px.toInt := iSub (by omega)
  have q6 : (q2 - p2).toInt = q2.toInt - p2.toInt := iSub (by omega)
  have q7 : (2 * px).toInt = 2 * px.toInt := by rw [iMul (by rw [t2]; omega), t2]
  have q8 : (2 * x).toInt = 2 * x.toInt := by rw [iMul (by rw [t2]; omega), t2]
  have q9 : (2 * px - 2 * x).toInt = 2 * px.toInt - 2 * x.toInt := by rw [iSub (by rw [q7, q8]; omega), q7, q8]
  have q10 : (2 * px - 2 * x - 1).toInt = 2 * px.toInt - 2 * x.toInt - 1 := by rw [iSub (by rw [q9, t1]; omega), q9, t1]
  have m1 := mul_bd (a := 2 * y.toInt + 1 - 2 * p2.toInt) (b := qx.toInt - px.toInt) (A := 700) (B := 618) (by omega) (by omega) (by decide) (by decide)
  have m2 := mul_bd (a := 2 * px.toInt - 2 * x.toInt - 1) (b := q2.toInt - p2.toInt) (A := 700) (B := 618) (by omega) (by omega) (by decide) (by decide)
  have q11 : ((2 * y + 1 - 2 * p2) * (qx - px)).toInt = (2 * y.toInt + 1 - 2 * p2.toInt) * (qx.toInt - px.toInt) := by rw [iMul (by rw [q4, q5]; omega), q4, q5]
  have q12 : ((2 * px - 2 * x - 1) * (q2 - p2)).toInt = (2 * px.toInt - 2 * x.toInt - 1) * (q2.toInt - p2.toInt) := by rw [iMul (by rw [q10, q6]; omega), q10, q6]
  refine ⟨?_, q6⟩
  unfold oAtM sAtM
  rw [iAdd (by rw [q11, q12]; omega), q11, q12]
