/-! ===== how many bits ===== -/
theorem and256 {a b m k : Nat} (hb : b < 256) (hk : k < 256) : (256 * a + b) &&& (256 * m + k) = 256 * (a &&& m) + (b &&& k) := by
  have h256 : (256 : Nat) = 2 ^ 8 := rfl
  have hbk : b &&& k < 2 ^ 8 := Nat.and_lt_two_pow b (by rw [← h256]; exact hk)
  refine Nat.eq_of_testBit_eq (fun j => ?_)
  rw [h256, Nat.testBit_and, Nat.testBit_two_pow_mul_add a (by rw [← h256]; exact hb), Nat.testBit_two_pow_mul_add m (by rw [← h256]; exact hk), Nat.testBit_two_pow_mul_add _ hbk]
  by_cases h : j < 8
  · rw [if_pos h, if_pos h, if_pos h, Nat.testBit_and]
  · rw [if_neg h, if_neg h, if_neg h, Nat.testBit_and]
def p4 (a b c d : Nat) : Nat := 256 * (256 * (256 * d + c) + b) + a
theorem and_p4 {a b c d a' b' c' d' : Nat} (h1 : a < 256) (h2 : b < 256) (h3 : c < 256) (g1 : a' < 256) (g2 : b' < 256) (g3 : c' < 256) : p4 a b c d &&& p4 a' b' c' d' = p4 (a &&& a') (b &&& b') (c &&& c') (d &&& d') := by
  unfold p4
  rw [and256 h1 g1, and256 h2 g2, and256 h3 g3]
theorem by1 : ∀ b : Fin 256, ∀ e : Fin 2, (b.val / 2 + 128 * e.val) &&& 85 = (b.val / 2) &&& 85 := by decide +kernel
theorem by1' : ∀ b : Fin 256, ((b.val / 2) &&& 85) ≤ b.val := by decide +kernel
theorem by2 : ∀ b : Fin 256, ∀ e : Fin 4, (b.val / 4 + 64 * e.val) &&& 51 = (b.val / 4) &&& 51 := by decide +kernel
def y1 (b : Nat) : Nat := b - (b / 2 &&& 85)
def y2 (b : Nat) : Nat := (b &&& 51) + (b / 4 &&& 51)
def y3 (b : Nat) : Nat := b % 16 + b / 16
theorem by3 : ∀ b : Fin 256, y1 b.val < 256 ∧ y2 (y1 b.val) % 16 ≤ 4 ∧ y2 (y1 b.val) / 16 ≤ 4 ∧ y3 (y2 (y1 b.val)) = sCnt (fun j => b.val.testBit j) 8 := by decide +kernel
theorem by4 : ∀ h : Fin 16, ∀ l : Fin 16, (16 * h.val + l.val) &&& 15 = l.val := by decide +kernel
theorem sCnt_split (p : Nat → Bool) (m : Nat) : ∀ n, sCnt p (m + n) = sCnt p m + sCnt (fun k => p (m + k)) n
  | 0 => rfl
  | n + 1 => by
    show sCnt p (m + n) + _ = sCnt p m + (sCnt (fun k => p (m + k)) n + _)
    rw [sCnt_split p m n]
    exact Nat.add_assoc _ _ _
theorem tB256 {a b : Nat} (hb : b < 256) (j : Nat) : (256 * a + b).testBit (8 + j) = a.testBit j := by
  have h256 : (256 : Nat) = 2 ^ 8 := rfl
  rw [h256, Nat.testBit_two_pow_mul_add a (by rw [← h256]; exact hb), if_neg (by omega)]
  congr 1
  omega
theorem tB256l {a b : Nat} (hb : b < 256) {j : Nat} (hj : j < 8) : (256 * a + b).testBit j = b.testBit j := by
  have h256 : (256 : Nat) = 2 ^ 8 := rfl
  rw [h256, Nat.testBit_two_pow_mul_add a (by rw [← h256]; exact hb), if_pos hj]
theorem cnt256 {a b n : Nat} (hb : b < 256) : sCnt (fun j => (256 * a + b).testBit j) (8 + n) = sCnt (fun j => b.testBit j) 8 + sCnt (fun j => a.testBit j) n := by
  rw [sCnt_split]
  congr 1
  · exact sCnt_congr (fun j hj => tB256l hb hj)
  · exact sCnt_congr (fun j hj => tB256 hb j)
theorem cnt_p4 {a b c d : Nat} (h1 : a < 256) (h2 : b < 256) (h3 : c < 256) : sCnt (fun j => (p4 a b c d).testBit j) 32 = sCnt (fun j => a.testBit j) 8 + (sCnt (fun j => b.testBit j) 8 + (sCnt (fun j => c.testBit j) 8 + sCnt (fun j => d.testBit j) 8)) := by
  show sCnt (fun j => (p4 a b c d).testBit j) (8 + 24) = _
  unfold p4
  rw [cnt256 h1]
  congr 1
  show sCnt _ (8 + 16) = _
  rw [cnt256 h2]
  congr 1
  show sCnt _ (8 + 8) = _
  rw [cnt256 h3]
theorem nI_and (a b : Nat) : nI a &&& nI b = nI (a &&& b) := by
  apply Int32.toBitVec_inj.mp
  show BitVec.ofNat 32 a &&& BitVec.ofNat 32 b = BitVec.ofNat 32 (a &&& b)
  rw [BitVec.ofNat_and]
theorem nI_ushr {n k : Nat} (hn : n < 4294967296) (s : Int32) (hs : ((s.toUInt32 &&& Int32.toUInt32 31).toBitVec % 32).toNat = k) : oUshr (nI n) s = nI (n / 2 ^ k) := pk_ushrN hn s k hs
theorem of32 (x : Int32) : ∃ n, n < 4294967296 ∧ x = nI n := ⟨x.toBitVec.toNat, x.toBitVec.isLt, Int32.toBitVec_inj.mp (by show _ = BitVec.ofNat 32 _; simp)⟩
theorem of4 {n : Nat} (h : n < 4294967296) : ∃ a b c d, a < 256 ∧ b < 256 ∧ c < 256 ∧ d < 256 ∧ n = p4 a b c d := by
  refine ⟨n % 256, n / 256 % 256, n / 65536 % 256, n / 16777216, by omega, by omega, by omega, by omega, ?_⟩
  unfold p4
  omega
theorem nI_plus (a b : Nat) : nI a + nI b = nI (a + b) := by
  apply Int32.toBitVec_inj.mp
  show BitVec.ofNat 32 a + BitVec.ofNat 32 b = BitVec.ofNat 32 (a + b)
  rw [BitVec.ofNat_add]
theorem bitCount_ok (v : Int32) : f_Integer_bitCount v = nI (sCnt (tb v) 32) := by
  obtain ⟨n, hn, rfl⟩ := of32 v
  obtain ⟨a, b, c, d, ha, hb, hc, hd, rfl⟩ := of4 hn
  have ecnt : sCnt (tb (nI (p4 a b c d))) 32 = sCnt (fun j => (p4 a b c d).testBit j) 32 := sCnt_congr (fun j hj => tb_nI hj)
  rw [ecnt, cnt_p4 ha hb hc]
  obtain ⟨a1, a2, a3, a4⟩ := by3 ⟨a, ha⟩
  obtain ⟨b1, b2, b3, b4⟩ := by3 ⟨b, hb⟩
  obtain ⟨c1, c2, c3, c4⟩ := by3 ⟨c, hc⟩
  obtain ⟨d1, d2, d3, d4⟩ := by3 ⟨d, hd⟩
  dsimp only at a1 a2 a3 a4 b1 b2 b3 b4 c1 c2 c3 c4 d1 d2 d3 d4
  rw [← a4, ← b4, ← c4, ← d4]
  -- one
  have l1 : p4 a b c d / 2 ^ 1 = p4 (a / 2 + 128 * (b % 2)) (b / 2 + 128 * (c % 2)) (c / 2 + 128 * (d % 2)) (d / 2) := by
    unfold p4
    omega
  have m1 : (p4 a b c d / 2 ^ 1) &&& 1431655765 = p4 (a / 2 &&& 85) (b / 2 &&& 85) (c / 2 &&& 85) (d / 2 &&& 85) := by
    rw [l1, show (1431655765 : Nat) = p4 85 85 85 85 from rfl, and_p4 (by omega) (by omega) (by omega) (by decide) (by decide) (by decide)]
    rw [by1 ⟨a, ha⟩ ⟨b % 2, by omega⟩, by1 ⟨b, hb⟩ ⟨c % 2, by omega⟩, by1 ⟨c, hc⟩ ⟨d % 2, by omega⟩]
  have ga := by1' ⟨a, ha⟩
  have gb := by1' ⟨b, hb⟩
  have gc := by1' ⟨c, hc⟩
  have gd := by1' ⟨d, hd⟩
  dsimp only at ga gb gc gd
  have e1 : nI (p4 a b c d) - (oUshr (nI (p4 a b c d)) 1 &&& 1431655765) = nI (p4 (y1 a) (y1 b) (y1 c) (y1 d)) := by
    rw [nI_ushr hn 1 (k := 1) (by decide), show (1431655765 : Int32) = nI 1431655765 from rfl, nI_and, m1, pk_sub (by unfold p4; omega)]
    congr 1
    unfold p4 y1
    omega
  unfold f_Integer_bitCount
  rw [e1]
  generalize y1 a = a at a1 a2 a3 ⊢
  generalize y1 b = b at b1 b2 b3 ⊢
  generalize y1 c = c at c1 c2 c3 ⊢
  generalize y1 d = d at d1 d2 d3 ⊢
  -- two
  have hn2 : p4 a b c d < 4294967296 := by unfold p4; omega
  have l2 : p4 a b c d / 2 ^ 2 = p4 (a / 4 + 64 * (b % 4)) (b / 4 + 64 * (c % 4)) (c / 4 + 64 * (d % 4)) (d / 4) := by
    unfold p4
    omega
  have e2 : (nI (p4 a b c d) &&& 858993459) + (oUshr (nI (p4 a b c d)) 2 &&& 858993459) = nI (p4 (y2 a) (y2 b) (y2 c) (y2 d)) := by
    rw [nI_ushr hn2 2 (k := 2) (by decide), show (858993459 : Int32) = nI (p4 51 51 51 51) from rfl, nI_and, nI_and, l2, and_p4 a1 b1 c1 (by decide) (by decide) (by decide), and_p4 (by omega) (by omega) (by omega) (by decide) (by decide) (by decide)]
    rw [by2 ⟨a, a1⟩ ⟨b % 4, by omega⟩, by2 ⟨b, b1⟩ ⟨c % 4, by omega⟩, by2 ⟨c, c1⟩ ⟨d % 4, by omega⟩, nI_plus]
    congr 1
    unfold p4 y2
    dsimp only
    omega
  rw [e2]
  generalize y2 a = a at a2 a3 ⊢
  generalize y2 b = b at b2 b3 ⊢
  generalize y2 c = c at c2 c3 ⊢
  generalize y2 d = d at d2 d3 ⊢
  -- three
  have hn3 : p4 a b c d < 4294967296 := by unfold p4; omega
  have e3 : (nI (p4 a b c d) + oUshr (nI (p4 a b c d)) 4) &&& 252645135 = nI (p4 (y3 a) (y3 b) (y3 c) (y3 d)) := by
    have l3 : p4 a b c d + p4 a b c d / 2 ^ 4 = p4 (16 * (a / 16 + b % 16) + (a % 16 + a / 16)) (16 * (b / 16 + c % 16) + (b % 16 + b / 16)) (16 * (c / 16 + d % 16) + (c % 16 + c / 16)) (16 * (d / 16) + (d % 16 + d / 16)) := by
      unfold p4
      omega
    rw [nI_ushr hn3 4 (k := 4) (by decide), nI_plus, l3, show (252645135 : Int32) = nI (p4 15 15 15 15) from rfl, nI_and, and_p4 (by omega) (by omega) (by omega) (by decide) (by decide) (by decide)]
    rw [by4 ⟨a / 16 + b % 16, by omega⟩ ⟨a % 16 + a / 16, by omega⟩, by4 ⟨b / 16 + c % 16, by omega⟩ ⟨b % 16 + b / 16, by omega⟩, by4 ⟨c / 16 + d % 16, by omega⟩ ⟨c % 16 + c / 16, by omega⟩, by4 ⟨d / 16, by omega⟩ ⟨d % 16 + d / 16, by omega⟩]
    rfl
  rw [e3]
  have ka : y3 a ≤ 8 := by unfold y3; omega
  have kb : y3 b ≤ 8 := by unfold y3; omega
  have kc : y3 c ≤ 8 := by unfold y3; omega
  have kd : y3 d ≤ 8 := by unfold y3; omega
  generalize y3 a = a at ka ⊢
  generalize y3 b = b at kb ⊢
  generalize y3 c = c at kc ⊢
  generalize y3 d = d at kd ⊢
  have hn4 : p4 a b c d < 4294967296 := by unfold p4; omega
  have q8 : p4 a b c d / 2 ^ 8 = 256 * (256 * d + c) + b := by unfold p4; omega
  have q16 : (p4 a b c d + (256 * (256 * d + c) + b)) / 2 ^ 16 = 256 * d + (c + d) := by unfold p4; omega
  rw [nI_ushr hn4 8 (k := 8) (by decide), q8, nI_plus, nI_ushr (by unfold p4; omega) 16 (k := 16) (by decide), q16, nI_plus, pk_andN (by unfold p4; omega) (m := 63) 6 rfl]
  congr 1
  have q : p4 a b c d + (256 * (256 * d + c) + b) + (256 * d + (c + d)) = 64 * (262144 * d + 1024 * c + 4 * b + 1024 * d + 4 * c + 4 * d) + (a + (b + (c + d))) := by unfold p4; omega
  rw [q]
  omega
