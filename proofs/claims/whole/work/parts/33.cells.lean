/-! ===== how many cells ===== -/
def sSum (f : Nat → Nat) : Nat → Nat
  | 0 => 0
  | n + 1 => sSum f n + f n
theorem sSum_congr {f g : Nat → Nat} : ∀ {n : Nat}, (∀ k, k < n → f k = g k) → sSum f n = sSum g n
  | 0, _ => rfl
  | n + 1, h => by rw [sSum, sSum, sSum_congr (fun k hk => h k (by omega)), h n (by omega)]
theorem sSum_add (f g : Nat → Nat) : ∀ n, sSum (fun k => f k + g k) n = sSum f n + sSum g n
  | 0 => rfl
  | n + 1 => by
    rw [sSum, sSum, sSum, sSum_add f g n]
    omega
theorem sSum_cnt (p : Nat → Bool) : ∀ n, sSum (fun k => if p k = true then 1 else 0) n = sCnt p n
  | 0 => rfl
  | n + 1 => by rw [sSum, sCnt, sSum_cnt p n]
theorem sSum_le {f : Nat → Nat} {b : Nat} : ∀ {n : Nat}, (∀ k, k < n → f k ≤ b) → sSum f n ≤ n * b
  | 0, _ => by simp [sSum]
  | n + 1, h => by
    have := sSum_le (n := n) (fun k hk => h k (by omega))
    have := h n (by omega)
    rw [sSum, Nat.succ_mul]
    omega
/-- how many cells -/
def sCells (p : Nat → Nat → Bool) : Nat := sCnt (fun c => p (c / 30) (c % 30)) 900
theorem sCells_cols (p : Nat → Nat → Bool) : ∀ m, sCnt (fun c => p (c / 30) (c % 30)) (30 * m) = sSum (fun x => sCnt (fun y => p x y) 30) m
  | 0 => rfl
  | m + 1 => by
    rw [Nat.mul_succ, sCnt_split, sSum, sCells_cols p m]
    congr 1
    refine sCnt_congr (fun k hk => ?_)
    show p ((30 * m + k) / 30) ((30 * m + k) % 30) = p m k
    rw [show (30 * m + k) / 30 = m by omega, show (30 * m + k) % 30 = k by omega]
theorem sSum_swap (p : Nat → Nat → Bool) (n : Nat) : ∀ m, sSum (fun x => sCnt (fun y => p x y) n) m = sSum (fun y => sCnt (fun x => p x y) m) n
  | 0 => by
    have : ∀ n, sSum (fun _ => 0) n = 0 := by
      intro n
      induction n with
      | zero => rfl
      | succ n ih => rw [sSum, ih]
    exact (this n).symm
  | m + 1 => by
    rw [sSum, sSum_swap p n m]
    have : ∀ y, sCnt (fun x => p x y) (m + 1) = sCnt (fun x => p x y) m + (if p m y = true then 1 else 0) := fun y => rfl
    rw [sSum_congr (fun y _ => this y), sSum_add, sSum_cnt (fun y => p m y)]
theorem sCells_rows (p : Nat → Nat → Bool) : sCells p = sSum (fun y => sCnt (fun x => p x y) 30) 30 := by
  rw [← sSum_swap p 30 30]
  exact sCells_cols p 30
theorem sCells_le (p : Nat → Nat → Bool) : sCells p ≤ 900 := sCnt_le _ _
theorem sCnt_30 {q p : Nat → Bool} (h : ∀ x, q x = true ↔ x < 30 ∧ p x = true) : sCnt q 32 = sCnt p 30 := by
  have e : ∀ x, x < 30 → q x = p x := by
    intro x hx
    have := h x
    cases hq : q x <;> cases hp : p x <;> simp_all
  have e30 : q 30 = false := by
    cases hq : q 30 with
    | false => rfl
    | true => exact absurd ((h 30).mp hq).1 (by omega)
  have e31 : q 31 = false := by
    cases hq : q 31 with
    | false => rfl
    | true => exact absurd ((h 31).mp hq).1 (by omega)
  show sCnt q 30 + (if q 30 = true then 1 else 0) + (if q 31 = true then 1 else 0) = _
  rw [e30, e31, sCnt_congr e]
  rfl
theorem rows_cells {q : Nat → Nat → Bool} {p : Nat → Nat → Bool} (h : ∀ y, y < 30 → ∀ x, q y x = true ↔ x < 30 ∧ p x y = true) : sSum (fun y => sCnt (q y) 32) 30 = sCells p := by
  rw [sCells_rows]
  exact sSum_congr (fun y hy => sCnt_30 (h y hy))
theorem c_bits_HROW (M : oM) (i : Nat) : oCt 1 k_Oak_countBits [.inr (K_HROW, i)] M (fun r M' => r = some (nI (sSum (fun y => sCnt (tb (M K_HROW i y)) 32) 30)) ∧ M' = M) := by
  refine oCt.of (ls := [some (.inr (K_HROW, i)), none, none]) mok_Oak_countBits rfl rfl ?_
  refine oRun_ok 4 rfl ?_
  have loop : ∀ (q y : Nat), y + q = 30 → oG k_Oak_countBits 1 4 [some (.inr (K_HROW, i)), some (.inl (nI (sSum (fun y => sCnt (tb (M K_HROW i y)) 32) y))), some (.inl (nI y))] [] M (fun r M' => r = some (nI (sSum (fun y => sCnt (tb (M K_HROW i y)) 32) 30)) ∧ M' = M) := by
    intro q
    induction q with
    | zero =>
      intro y hy
      have hy : y = 30 := by omega
      subst hy
      refine oRun_ok 2 rfl ?_
      refine g_alen rfl rfl rfl rfl ?_
      refine g_ic_ge rfl (fun _ => ?_) (fun h => absurd (Int32.le_refl _) h)
      refine oRun_ok 1 rfl ?_
      exact g_iret rfl rfl rfl ⟨rfl, rfl⟩
    | succ q ih =>
      intro y hy
      refine oRun_ok 2 rfl ?_
      refine g_alen rfl rfl rfl rfl ?_
      refine g_ic_ge rfl (fun h => ?_) (fun _ => ?_)
      · rw [show Int32.ofNat 30 = nI 30 from rfl, nIle (by omega) (by omega)] at h
        omega
      refine oRun_ok 3 rfl ?_
      refine g_iald y rfl rfl rfl (by omega) ?_
      refine g_callS rfl rfl rfl rfl mok_Integer_bitCount (by decide) (c_Integer_bitCount M _) ?_
      rintro r14 M14 ⟨rfl, e⟩; rw [e, bitCount_ok]
      refine oRun_ok 4 rfl ?_
      rw [nI_1, nI_plus]
      exact ih (y + 1) (by omega)
  exact loop 30 0 (by omega)
theorem c_bits_NOB (M : oM) (i : Nat) : oCt 1 k_Oak_countBits [.inr (K_NOB, i)] M (fun r M' => r = some (nI (sSum (fun y => sCnt (tb (M K_NOB i y)) 32) 30)) ∧ M' = M) := by
  refine oCt.of (ls := [some (.inr (K_NOB, i)), none, none]) mok_Oak_countBits rfl rfl ?_
  refine oRun_ok 4 rfl ?_
  have loop : ∀ (q y : Nat), y + q = 30 → oG k_Oak_countBits 1 4 [some (.inr (K_NOB, i)), some (.inl (nI (sSum (fun y => sCnt (tb (M K_NOB i y)) 32) y))), some (.inl (nI y))] [] M (fun r M' => r = some (nI (sSum (fun y => sCnt (tb (M K_NOB i y)) 32) 30)) ∧ M' = M) := by
    intro q
    induction q with
    | zero =>
      intro y hy
      have hy : y = 30 := by omega
      subst hy
      refine oRun_ok 2 rfl ?_
      refine g_alen rfl rfl rfl rfl ?_
      refine g_ic_ge rfl (fun _ => ?_) (fun h => absurd (Int32.le_refl _) h)
      refine oRun_ok 1 rfl ?_
      exact g_iret rfl rfl rfl ⟨rfl, rfl⟩
    | succ q ih =>
      intro y hy
      refine oRun_ok 2 rfl ?_
      refine g_alen rfl rfl rfl rfl ?_
      refine g_ic_ge rfl (fun h => ?_) (fun _ => ?_)
      · rw [show Int32.ofNat 30 = nI 30 from rfl, nIle (by omega) (by omega)] at h
        omega
      refine oRun_ok 3 rfl ?_
      refine g_iald y rfl rfl rfl (by omega) ?_
      refine g_callS rfl rfl rfl rfl mok_Integer_bitCount (by decide) (c_Integer_bitCount M _) ?_
      rintro r14 M14 ⟨rfl, e⟩; rw [e, bitCount_ok]
      refine oRun_ok 4 rfl ?_
      rw [nI_1, nI_plus]
      exact ih (y + 1) (by omega)
  exact loop 30 0 (by omega)
/-- the cells whose owners are not the same -/
theorem c_Cells_countUnlike (M : oM) (c c' n : Nat) (A B : Nat → Nat → Option Nat) (hn : n ≤ 4) (hA : ∀ d, d < n → ∀ y, y < 30 → ∀ x : Nat, tb (M K_HROW (4 * c + d) y) x = true ↔ x < 30 ∧ A x y = some d) (hA0 : ∀ y, y < 30 → ∀ x : Nat, tb (M K_NOB c y) x = true ↔ x < 30 ∧ A x y = none) (hB : ∀ d, d < n → ∀ y, y < 30 → ∀ x : Nat, tb (M K_HROW (4 * c' + d) y) x = true ↔ x < 30 ∧ B x y = some d) (hB0 : ∀ y, y < 30 → ∀ x : Nat, tb (M K_NOB c' y) x = true ↔ x < 30 ∧ B x y = none) (hAn : ∀ x y d, A x y = some d → d < n) :
    oCt 1 k_Cells_countUnlike [.inr (K_CELLS, c), .inr (K_CELLS, c'), .inl (nI n)] M (fun r M' => r = some (nI (sCells (fun x y => decide (¬ A x y = B x y)))) ∧ M' = M) := by
  refine oCt.of (ls := [some (.inr (K_CELLS, c)), some (.inr (K_CELLS, c')), some (.inl (nI n)), none, none, none, none]) mok_Cells_countUnlike rfl rfl ?_
  refine oRun_ok 4 rfl ?_
  have inner : ∀ (q d y : Nat) (v : Int32) (s : Int32) (P : Int32 → Prop), d + q = n → y < 30 → (∀ x, tb v x = true ↔ (Bool.xor (tb (M K_NOB c y) x) (tb (M K_NOB c' y) x) = true ∨ ∃ e, e < d ∧ Bool.xor (tb (M K_HROW (4 * c + e) y) x) (tb (M K_HROW (4 * c' + e) y) x) = true)) → (∀ (v : Int32) (x6 : Option oV), (∀ x, tb v x = true ↔ (Bool.xor (tb (M K_NOB c y) x) (tb (M K_NOB c' y) x) = true ∨ ∃ e, e < n ∧ Bool.xor (tb (M K_HROW (4 * c + e) y) x) (tb (M K_HROW (4 * c' + e) y) x) = true)) → oG k_Cells_countUnlike 1 5 [some (.inr (K_CELLS, c)), some (.inr (K_CELLS, c')), some (.inl (nI n)), some (.inl (s + f_Integer_bitCount v)), some (.inl (nI (y + 1))), some (.inl v), x6] [] M (fun r M' => r = some (nI (sCells (fun x y => decide (¬ A x y = B x y)))) ∧ M' = M)) →
      oG k_Cells_countUnlike 1 32 [some (.inr (K_CELLS, c)), some (.inr (K_CELLS, c')), some (.inl (nI n)), some (.inl s), some (.inl (nI y)), some (.inl v), some (.inl (nI d))] [] M (fun r M' => r = some (nI (sCells (fun x y => decide (¬ A x y = B x y)))) ∧ M' = M) := by
    intro q
    induction q with
    | zero =>
      intro d y v s P hd hy hv kk
      have hd : d = n := by omega
      subst hd
      refine oRun_ok 2 rfl ?_
      refine g_ic_ge rfl (fun _ => ?_) (fun h => absurd (Int32.le_refl _) h)
      refine oRun_ok 2 rfl ?_
      refine g_callS rfl rfl rfl rfl mok_Integer_bitCount (by decide) (c_Integer_bitCount M _) ?_
      rintro r73 M73 ⟨rfl, e⟩; rw [e]
      refine oRun_ok 4 rfl ?_
      rw [nI_1]
      exact kk v _ hv
    | succ q ih =>
      intro d y v s P hd hy hv kk
      refine oRun_ok 2 rfl ?_
      refine g_ic_ge rfl (fun h => ?_) (fun _ => ?_)
      · rw [nIle (by omega) (by omega)] at h
        omega
      refine oRun_ok 4 rfl ?_
      refine g_aald d rfl rfl rfl (by omega) rfl ?_
      refine oRun_ok 1 rfl ?_
      refine g_iald y rfl rfl rfl hy ?_
      refine oRun_ok 3 rfl ?_
      refine g_aald d rfl rfl rfl (by omega) rfl ?_
      refine oRun_ok 1 rfl ?_
      refine g_iald y rfl rfl rfl hy ?_
      refine oRun_ok 5 rfl ?_
      rw [nI_1]
      refine ih (d + 1) y _ s P (by omega) hy (fun x => ?_) kk
      rw [tb_or, tb_xor, Bool.or_eq_true, hv x]
      constructor
      · rintro ((q | ⟨e, he, q⟩) | q)
        · exact Or.inl q
        · exact Or.inr ⟨e, by omega, q⟩
        · exact Or.inr ⟨d, by omega, q⟩
      · rintro (q | ⟨e, he, q⟩)
        · exact Or.inl (Or.inl q)
        · by_cases z : e = d
          · subst z
            exact Or.inr q
          · exact Or.inl (Or.inr ⟨e, by omega, q⟩)
  have loop : ∀ (q y : Nat) (x5 x6 : Option oV), y + q = 30 → oG k_Cells_countUnlike 1 5 [some (.inr (K_CELLS, c)), some (.inr (K_CELLS, c')), some (.inl (nI n)), some (.inl (nI (sSum (fun y => sCnt (fun x => decide (¬ A x y = B x y)) 30) y))), some (.inl (nI y)), x5, x6] [] M (fun r M' => r = some (nI (sCells (fun x y => decide (¬ A x y = B x y)))) ∧ M' = M) := by
    intro q
    induction q with
    | zero =>
      intro y x5 x6 hy
      have hy : y = 30 := by omega
      subst hy
      refine oRun_ok 2 rfl ?_
      refine g_ic_ge rfl (fun _ => ?_) (fun h => absurd (Int32.le_refl _) h)
      refine oRun_ok 1 rfl ?_
      refine g_iret rfl rfl rfl ⟨?_, rfl⟩
      rw [sCells_rows]
    | succ q ih =>
      intro y x5 x6 hy
      refine oRun_ok 2 rfl ?_
      refine g_ic_ge rfl (fun h => ?_) (fun _ => ?_)
      · rw [show (30 : Int32) = nI 30 from rfl, nIle (by omega) (by omega)] at h
        omega
      refine oRun_ok 3 rfl ?_
      refine g_iald y rfl rfl rfl (by omega) ?_
      refine oRun_ok 3 rfl ?_
      refine g_iald y rfl rfl rfl (by omega) ?_
      refine oRun_ok 4 rfl ?_
      refine inner n 0 y _ _ (fun _ => True) (by omega) (by omega) (fun x => ?_) (fun v x6' hv => ?_)
      · rw [tb_xor]
        exact ⟨Or.inl, fun q => q.elim id (fun ⟨e, he, _⟩ => absurd he (by omega))⟩
      · rw [bitCount_ok, nI_plus]
        have e : sCnt (tb v) 32 = sCnt (fun x => decide (¬ A x y = B x y)) 30 := by
          refine sCnt_30 (fun x => ?_)
          rw [hv x, decide_eq_true_eq]
          have hy30 : y < 30 := by omega
          have xr : ∀ a b : Bool, Bool.xor a b = true ↔ ¬ (a = true ↔ b = true) := by decide
          rw [xr, hA0 y hy30 x, hB0 y hy30 x]
          constructor
          · rintro (q | ⟨e, he, q⟩)
            · by_cases hx : x < 30
              · refine ⟨hx, fun z => q ?_⟩
                rw [z]
              · exact absurd ⟨fun z => absurd z.1 hx, fun z => absurd z.1 hx⟩ q
            · rw [xr, hA e he y hy30 x, hB e he y hy30 x] at q
              by_cases hx : x < 30
              · refine ⟨hx, fun z => q ?_⟩
                rw [z]
              · exact absurd ⟨fun z => absurd z.1 hx, fun z => absurd z.1 hx⟩ q
          · rintro ⟨hx, q⟩
            cases ha : A x y with
            | none =>
              refine Or.inl (fun z => q ?_)
              rw [ha]
              exact ((z.mp ⟨hx, rfl⟩).2).symm
            | some d =>
              refine Or.inr ⟨d, hAn x y d ha, ?_⟩
              rw [xr, hA d (hAn x y d ha) y hy30 x, hB d (hAn x y d ha) y hy30 x]
              intro z
              refine q ?_
              rw [ha]
              exact ((z.mp ⟨hx, ha⟩).2).symm
        rw [e]
        exact ih (y + 1) _ _ (by omega)
  exact loop 30 0 _ _ (by omega)
