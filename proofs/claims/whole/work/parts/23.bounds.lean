/-! ===== how far corners lie ===== -/
theorem size_t {v : Int32} (h : -2147483648 < v.toInt) : (f_Mod_size v).toInt = v.toInt.natAbs := by
  unfold f_Mod_size
  by_cases h0 : 0 ≤ v
  · rw [if_pos h0]
    have : 0 ≤ v.toInt := iLe.mp h0
    omega
  · rw [if_neg h0, iNeg h]
    have : ¬ 0 ≤ v.toInt := fun q => h0 (iLe.mpr q)
    omega
theorem across_t (v : Int32) : -1 ≤ (f_Mod_acrossBy v).toInt ∧ (f_Mod_acrossBy v).toInt ≤ 1 := by
  unfold f_Mod_acrossBy
  repeat' split
  all_goals decide
theorem up_t (v : Int32) : -1 ≤ (f_Mod_upBy v).toInt ∧ (f_Mod_upBy v).toInt ≤ 1 := by
  unfold f_Mod_upBy
  repeat' split
  all_goals decide
theorem true_t {len ch : Int32} (hl : inR len 1 20) (hc : inR ch (-9) 9) : 0 ≤ (f_Mod_trueBy len ch).toInt ∧ (f_Mod_trueBy len ch).toInt ≤ 21 := by
  unfold f_Mod_trueBy
  obtain ⟨l1, l2⟩ := hl
  obtain ⟨c1, c2⟩ := hc
  have e100 : (100 : Int32).toInt = 100 := rfl
  have h1 : (100 + ch).toInt = 100 + ch.toInt := by rw [iAdd (by rw [e100]; omega), e100]
  have hb : 0 ≤ len.toInt * (100 + ch.toInt) ∧ len.toInt * (100 + ch.toInt) ≤ 2180 := by
    refine ⟨Int.mul_nonneg (by omega) (by omega), ?_⟩
    have := Int.mul_le_mul (a := len.toInt) (c := 20) (b := 100 + ch.toInt) (d := 109) l2 (by omega) (by omega) (by decide)
    omega
  have h2 : (len * (100 + ch)).toInt = len.toInt * (100 + ch.toInt) := by rw [iMul (by rw [h1]; omega), h1]
  rw [iDiv (by left; rw [h2]; omega), h2, e100]
  have h3 : (len.toInt * (100 + ch.toInt)).tdiv 100 = (len.toInt * (100 + ch.toInt)) / 100 := Int.tdiv_eq_ediv_of_nonneg hb.1
  rw [h3]
  omega
theorem mul_small {a b : Int32} (ha : 0 ≤ a.toInt ∧ a.toInt ≤ 21) (hb : -1 ≤ b.toInt ∧ b.toInt ≤ 1) : -21 ≤ (a * b).toInt ∧ (a * b).toInt ≤ 21 := by
  have hb3 : b.toInt = -1 ∨ b.toInt = 0 ∨ b.toInt = 1 := by omega
  have hm : a.toInt * b.toInt = -a.toInt ∨ a.toInt * b.toInt = 0 ∨ a.toInt * b.toInt = a.toInt := by
    rcases hb3 with h | h | h <;> rw [h]
    · left; omega
    · right; left; omega
    · right; right; omega
  rw [iMul (by omega)]
  omega
theorem pr2 {a b : Int32} {lo hi : Int} (h1 : inR a lo hi) (h2 : inR b lo hi) : inR (a, b).1 lo hi ∧ inR (a, b).2 lo hi := ⟨h1, h2⟩
theorem sStep_bd {N : Nat → Int32} {bx b2 nd ch kind way len x y : Int32} {B : Int} (hN : oNOk N) (h1 : inR bx 0 29) (h2 : inR b2 0 29) (hc : inR ch (-9) 9) (hl : inR len 1 20) (hB : 99 ≤ B ∧ B ≤ 100000) (hx : inR x (-B) B) (hy : inR y (-B) B) : inR (sStep N bx b2 nd ch kind way len x y).1 (-(B + 21)) (B + 21) ∧ inR (sStep N bx b2 nd ch kind way len x y).2 (-(B + 21)) (B + 21) := by
  obtain ⟨x1, x2⟩ := hx
  obtain ⟨y1, y2⟩ := hy
  obtain ⟨p1, p2⟩ := h1
  obtain ⟨p3, p4⟩ := h2
  obtain ⟨hS, hS8⟩ := oNS hN
  unfold sStep
  split
  · rename_i h
    obtain ⟨-, h⟩ := h
    rw [hS] at h
    obtain ⟨n, hn, e⟩ := wiI (by omega) h
    rw [e, nIc (by omega)]
    obtain ⟨⟨a, b⟩, c, d⟩ := hN.2.2.2.1 n hn
    exact pr2 ⟨by omega, by omega⟩ ⟨by omega, by omega⟩
  · split
    · exact pr2 ⟨by omega, by omega⟩ ⟨by omega, by omega⟩
    · split
      · have e2 : (2 : Int32).toInt = 2 := rfl
        have q1 : (x + bx).toInt = x.toInt + bx.toInt := iAdd (by omega)
        have q2 : (y + b2).toInt = y.toInt + b2.toInt := iAdd (by omega)
        have r1 : ((x + bx) / 2).toInt = (x.toInt + bx.toInt).tdiv 2 := by rw [iDiv (by right; rw [e2]; decide), q1, e2]
        have r2 : ((y + b2) / 2).toInt = (y.toInt + b2.toInt).tdiv 2 := by rw [iDiv (by right; rw [e2]; decide), q2, e2]
        have t1 : ((x.toInt + bx.toInt).tdiv 2).natAbs = (x.toInt + bx.toInt).natAbs / 2 := Int.natAbs_tdiv _ 2
        have t2 : ((y.toInt + b2.toInt).tdiv 2).natAbs = (y.toInt + b2.toInt).natAbs / 2 := Int.natAbs_tdiv _ 2
        refine pr2 ⟨?_, ?_⟩ ⟨?_, ?_⟩
        · rw [r1]; omega
        · rw [r1]; omega
        · rw [r2]; omega
        · rw [r2]; omega
      · have ht := true_t hl hc
        have ma := mul_small ht (across_t (sW nd kind way))
        have mu := mul_small ht (up_t (sW nd kind way))
        refine ⟨⟨?_, ?_⟩, ⟨?_, ?_⟩⟩
        · show -(B + 21) ≤ (x + f_Mod_trueBy len ch * f_Mod_acrossBy (sW nd kind way)).toInt
          rw [iAdd (by omega)]; omega
        · show (x + f_Mod_trueBy len ch * f_Mod_acrossBy (sW nd kind way)).toInt ≤ B + 21
          rw [iAdd (by omega)]; omega
        · show -(B + 21) ≤ (y + f_Mod_trueBy len ch * f_Mod_upBy (sW nd kind way)).toInt
          rw [iAdd (by omega)]; omega
        · show (y + f_Mod_trueBy len ch * f_Mod_upBy (sW nd kind way)).toInt ≤ B + 21
          rw [iAdd (by omega)]; omega
theorem sCor_bd {N : Nat → Int32} {bx b2 nd ch : Int32} {ka wa la : Nat → Int32} (hN : oNOk N) (h1 : inR bx 0 29) (h2 : inR b2 0 29) (hc : inR ch (-9) 9) : ∀ (k : Nat), k ≤ 10 → (∀ j, j < k → inR (la j) 1 20) → inR (sCor N bx b2 nd ch ka wa la k).1 (-(99 + 21 * k)) (99 + 21 * k) ∧ inR (sCor N bx b2 nd ch ka wa la k).2 (-(99 + 21 * k)) (99 + 21 * k)
  | 0, _, _ => by
    obtain ⟨p1, p2⟩ := h1
    obtain ⟨p3, p4⟩ := h2
    exact ⟨⟨by show _ ≤ bx.toInt; omega, by show bx.toInt ≤ _; omega⟩, ⟨by show _ ≤ b2.toInt; omega, by show b2.toInt ≤ _; omega⟩⟩
  | k + 1, hk, hl => by
    have ih := sCor_bd (nd := nd) (ka := ka) (wa := wa) hN h1 h2 hc k (by omega) (fun j hj => hl j (by omega))
    have := sStep_bd (nd := nd) (kind := ka k) (way := wa k) (B := 99 + 21 * (k : Int)) hN h1 h2 hc (hl k (by omega)) (by omega) ih.1 ih.2
    have e : (99 + 21 * ((k + 1 : Nat) : Int)) = 99 + 21 * (k : Int) + 21 := by omega
    rw [e]
    exact this
theorem sCor_far {N : Nat → Int32} {bx b2 nd ch : Int32} {ka wa la : Nat → Int32} {k : Nat} (hN : oNOk N) (h1 : inR bx 0 29) (h2 : inR b2 0 29) (hc : inR ch (-9) 9) (hk : k ≤ 10) (hl : ∀ j, j < k → inR (la j) 1 20) : inR (sCor N bx b2 nd ch ka wa la k).1 (-309) 309 ∧ inR (sCor N bx b2 nd ch ka wa la k).2 (-309) 309 := by
  obtain ⟨⟨a, b⟩, c, d⟩ := sCor_bd (nd := nd) (ka := ka) (wa := wa) hN h1 h2 hc k hk hl
  exact ⟨⟨by omega, by omega⟩, ⟨by omega, by omega⟩⟩
theorem sGapP_rng {bx b2 : Int32} {p : Int32 × Int32} (h1 : inR bx 0 29) (h2 : inR b2 0 29) (hx : inR p.1 (-309) 309) (hy : inR p.2 (-309) 309) : inR (sGapP bx b2 p) 0 1000 := by
  obtain ⟨a1, a2⟩ := h1
  obtain ⟨b1, b3⟩ := h2
  obtain ⟨c1, c2⟩ := hx
  obtain ⟨d1, d2⟩ := hy
  have e1 : (p.1 - bx).toInt = p.1.toInt - bx.toInt := iSub (by omega)
  have e2 : (p.2 - b2).toInt = p.2.toInt - b2.toInt := iSub (by omega)
  have s1 := size_t (v := p.1 - bx) (by omega)
  have s2 := size_t (v := p.2 - b2) (by omega)
  unfold sGapP
  have : (f_Mod_size (p.1 - bx) + f_Mod_size (p.2 - b2)).toInt = (f_Mod_size (p.1 - bx)).toInt + (f_Mod_size (p.2 - b2)).toInt := iAdd (by omega)
  exact ⟨by rw [this]; omega, by rw [this]; omega⟩
theorem lA_rng {N : Nat → Int32} {d j : Nat} (h : oDOk N d) (hj : j < cC N d) : inR (lA N d j) 1 20 := (h.2.2.2.2.2 j hj).2.2
theorem sC_far {N : Nat → Int32} {d k : Nat} {nd ch : Int32} (hN : oNOk N) (hd : d < cD N) (hc : inR ch (-9) 9) (hk : k ≤ cC N d) : inR (sC N d nd ch k).1 (-309) 309 ∧ inR (sC N d nd ch k).2 (-309) 309 := by
  have hDo := hN.2.2.2.2.1 d hd
  obtain ⟨-, h10⟩ := oNC hDo
  exact sCor_far hN hDo.1 hDo.2.1 hc (by omega) (fun j hj => lA_rng hDo (by omega))
theorem sGap_rng {N : Nat → Int32} {d : Nat} {nd ch : Int32} (hN : oNOk N) (hd : d < cD N) (hc : inR ch (-9) 9) : inR (sGap N d nd ch) 0 1000 := by
  have hDo := hN.2.2.2.2.1 d hd
  obtain ⟨a, b⟩ := sC_far (nd := nd) hN hd hc (Nat.le_refl _)
  exact sGapP_rng hDo.1 hDo.2.1 a b
theorem within_rng (v : Int32) : inR (f_Mod_within v (-9) 9) (-9) 9 := by
  unfold f_Mod_within
  split
  · rename_i h
    split
    · rename_i h2
      exact ⟨iLe.mp h, iLe.mp h2⟩
    · exact ⟨by decide, by decide⟩
  · exact ⟨by decide, by decide⟩
theorem sCh_rng {N : Nat → Int32} {d : Nat} (hN : oNOk N) (hd : d < cD N) : inR (sCh N d) (-9) 9 := by
  unfold sCh
  split
  · exact (hN.2.2.2.2.1 d hd).2.2.2.1
  · exact within_rng _
