/-! ===== the first memory: what the two constructors leave ===== -/
def yM0 (sc : Nat → Int32) (n : Nat) : oM := fun k i j =>
  if k = K_LAND then (if j = 7 then 1 else 0) else if k = K_ROW then (if j = 0 then -1 else 0) else if k = K_M_now then (if j = 0 then 1 else 0) else if k = K_M_keys then oKeys.getD j 0 else if k = K_M_keyAt then ([0, 6, 11, 16] : List Int32).getD j 0 else if k = K_M_sorts then -1 else if k = K_SCR then (if i = 0 then sc j else nI n) else 0
theorem yM0_z {sc : Nat → Int32} {n k : Nat} (h : ¬ (k = K_LAND ∨ k = K_ROW ∨ k = K_M_now ∨ k = K_M_keys ∨ k = K_M_keyAt ∨ k = K_M_sorts ∨ k = K_SCR)) (i j : Nat) : yM0 sc n k i j = 0 := by
  unfold yM0
  rw [if_neg (fun z => h (Or.inl z)), if_neg (fun z => h (Or.inr (Or.inl z))), if_neg (fun z => h (Or.inr (Or.inr (Or.inl z)))), if_neg (fun z => h (Or.inr (Or.inr (Or.inr (Or.inl z))))), if_neg (fun z => h (Or.inr (Or.inr (Or.inr (Or.inr (Or.inl z)))))), if_neg (fun z => h (Or.inr (Or.inr (Or.inr (Or.inr (Or.inr (Or.inl z))))))), if_neg (fun z => h (Or.inr (Or.inr (Or.inr (Or.inr (Or.inr (Or.inr z)))))))]
theorem yM0_now {sc : Nat → Int32} {n j : Nat} (h : ¬ j = 0) : yM0 sc n K_M_now 0 j = 0 := if_neg h
theorem yM0_scr {sc : Nat → Int32} {n : Nat} : yM0 sc n 60 1 0 = nI n := rfl
theorem yM0_in (sc : Nat → Int32) (n : Nat) : oI (yM0 sc n) (yM0 sc n) := by
  have z := fun (k : Nat) h (i j : Nat) => yM0_z (sc := sc) (n := n) (k := k) h i j
  have c1 : cS (yM0 sc n K_M_now 0) = 0 := by unfold cS; rw [yM0_now (by decide)]; rfl
  have c2 : cD (yM0 sc n K_M_now 0) = 0 := by unfold cD; rw [yM0_now (by decide)]; rfl
  have c3 : cT (yM0 sc n K_M_now 0) = 0 := by unfold cT; rw [yM0_now (by decide)]; rfl
  refine ⟨⟨⟨?_, ?_, ?_, fun i hi => ?_, fun d hd => ?_, fun t ht => ?_⟩, rfl, rfl, rfl, rfl, fun i hi => ?_, fun d hd => ?_, fun t ht => ?_⟩, ⟨?_, Or.inl ?_⟩, ⟨0, by decide, z _ (by decide) _ _, z _ (by decide) _ _, fun j hj => absurd hj (Nat.not_lt_zero j)⟩, fun s hs => ⟨rfl, ?_, ?_, ?_, fun k hk => ?_⟩, fun i hi => ⟨?_, ?_, fun q => ?_, fun q => ?_, fun q => ?_⟩, ⟨0, by decide, z _ (by decide) _ _, z _ (by decide) _ _, fun j hj => absurd hj (Nat.not_lt_zero j)⟩, ⟨fun j hj => rfl, rfl, rfl, rfl, rfl⟩⟩
  · rw [yM0_now (by decide)]; exact ⟨by decide, by decide⟩
  · rw [yM0_now (by decide)]; exact ⟨by decide, by decide⟩
  · rw [yM0_now (by decide)]; exact ⟨by decide, by decide⟩
  · rw [c1] at hi; exact absurd hi (Nat.not_lt_zero i)
  · rw [c2] at hd; exact absurd hd (Nat.not_lt_zero d)
  · rw [c3] at ht; exact absurd ht (Nat.not_lt_zero t)
  · rw [c1] at hi; exact absurd hi (Nat.not_lt_zero i)
  · rw [c2] at hd; exact absurd hd (Nat.not_lt_zero d)
  · rw [c3] at ht; exact absurd ht (Nat.not_lt_zero t)
  · rw [z _ (by decide), z _ (by decide)]
  · rw [z _ (by decide)]
  · rw [z K_M_sizes (by decide)]; rfl
  · show inR (-1) (-1) 1
    exact ⟨by decide, by decide⟩
  · rw [z K_M_sizes (by decide)]; exact ⟨by decide, by decide⟩
  · rw [z _ (by decide), z _ (by decide)]
  · rw [z _ (by decide), z _ (by decide)]
  · rw [z _ (by decide)]; exact ⟨by decide, by decide⟩
  · rw [z _ (by decide)] at q; exact absurd q (by decide)
  · rw [z _ (by decide)] at q; exact absurd q (by decide)
  · rw [z _ (by decide)] at q; exact absurd q (by decide)
/-- the law from where both are made -/
theorem lw_all (sc : Nat → Int32) (n : Nat) (hb : n < 2147483648) : oG k_Law_law 200 18 [some (.inr (K_SCR, 0)), some (.inr (K_OAK, 0)), some (.inr (K_MOD, 0)), some (.inl 0)] [] (yM0 sc n) (fun r _ => r = some 1) := lw_loop hb n 0 (yM0 sc n) (by omega) (Nat.zero_le n) (yM0_in sc n) yM0_scr

