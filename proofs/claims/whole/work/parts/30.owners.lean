/-! ===== Cells: owners ===== -/
theorem shr_amt : ∀ x : Fin 32, ((nI x.val &&& 31).toBitVec.smod 32) = BitVec.ofNat 32 x.val := by decide +kernel
theorem tb_shr {x : Nat} (v : Int32) (hx : x < 32) : tb (v >>> (nI x &&& 31)) 0 = tb v x := by
  unfold tb
  rw [Int32.toBitVec_shiftRight, shr_amt ⟨x, hx⟩]
  show (v.toBitVec.sshiftRight (BitVec.ofNat 32 x).toNat).getLsbD 0 = _
  rw [BitVec.toNat_ofNat, Nat.mod_eq_of_lt (by omega), BitVec.getLsbD_sshiftRight]
  simp [hx]
theorem and_1 (a : Int32) : a &&& 1 = bI (tb a 0) := by
  have h : (a &&& 1).toBitVec = (bI (tb a 0)).toBitVec := by
    refine BitVec.eq_of_getLsbD_eq (fun i hi => ?_)
    rw [Int32.toBitVec_and, BitVec.getLsbD_and]
    show (tb a i && (BitVec.ofNat 32 1).getLsbD i) = tb (bI (tb a 0)) i
    by_cases h0 : i = 0
    · subst h0
      cases tb a 0 <;> rfl
    · have e1 : (BitVec.ofNat 32 1).getLsbD i = false := by
        rw [BitVec.getLsbD_ofNat]
        have : Nat.testBit 1 i = false := by
          cases hb : Nat.testBit 1 i with
          | false => rfl
          | true => exact absurd (Nat.testBit_one_eq_true_iff_self_eq_zero.mp hb) h0
        simp [this]
      rw [e1, Bool.and_false]
      cases tb a 0
      · exact (tb_0 i).symm
      · exact e1.symm
  exact Int32.toBitVec_inj.mp h
theorem bit_at {x : Nat} (v : Int32) (hx : x < 32) : (v >>> (nI x &&& 31)) &&& 1 = bI (tb v x) := by rw [and_1, tb_shr v hx]
theorem shl_eq : ∀ f : Fin 31, (1 : Int32) <<< (nI f.val &&& 31) = nI (2 ^ f.val) := by decide +kernel
theorem tb_shl {f : Nat} (hf : f < 31) (x : Nat) : tb ((1 : Int32) <<< (nI f &&& 31)) x = decide (x = f) := by
  rw [shl_eq ⟨f, hf⟩]
  by_cases hx : x < 32
  · rw [tb_nI hx, Nat.testBit_two_pow]
    by_cases e : x = f
    · subst e; simp
    · simp [e, Ne.symm e]
  · rw [tb_hi (by omega)]
    exact (decide_eq_false (by omega)).symm
theorem tb_m1 {x : Nat} (hx : x < 32) : tb (-1) x = true := by
  have : ∀ x : Fin 32, tb (-1) x.val = true := by decide +kernel
  exact this ⟨x, hx⟩
theorem c_Cells_isHeld (M : oM) (c d x y : Nat) (hd : d < 4) (hx : x < 30) (hy : y < 30) : oCt 0 k_Cells_isHeld [.inr (K_CELLS, c), .inl (nI d), .inl (nI x), .inl (nI y)] M (fun r M' => r = some (bI (tb (M K_HROW (4 * c + d) y) x)) ∧ M' = M) := by
  refine oCt.of (ls := [some (.inr (K_CELLS, c)), some (.inl (nI d)), some (.inl (nI x)), some (.inl (nI y))]) mok_Cells_isHeld rfl rfl ?_
  refine oRun_ok 3 rfl ?_
  refine g_aald d rfl rfl rfl hd rfl ?_
  refine oRun_ok 1 rfl ?_
  refine g_iald y rfl rfl rfl hy ?_
  refine oRun_ok 5 rfl ?_
  rw [bit_at _ (by omega)]
  refine g_ic_ne rfl (fun h13 => ?_) (fun h13 => ?_)
  · refine oRun_ok 1 rfl ?_
    refine g_iret rfl rfl rfl ⟨?_, rfl⟩
    cases hb : tb (M K_HROW (4 * c + d) y) x with
    | false => rfl
    | true =>
      exfalso
      have hb : tb (M 14 (4 * c + d) y) x = true := hb
      rw [hb] at h13
      exact h13 rfl
  · refine oRun_ok 2 rfl ?_
    refine g_iret rfl rfl rfl ⟨?_, rfl⟩
    cases hb : tb (M K_HROW (4 * c + d) y) x with
    | true => rfl
    | false =>
      exfalso
      have hb : tb (M 14 (4 * c + d) y) x = false := hb
      rw [hb] at h13
      exact absurd h13 (by decide)
/-- the one of the first n that comes first by rank -/
def sFst (ok : Nat → Bool) (rk : Nat → Int32) : Nat → Option Nat
  | 0 => none
  | n + 1 => if ok n = true then (match sFst ok rk n with
    | none => some n
    | some b => if rk n < rk b then some n else some b) else sFst ok rk n
def oFst (o : Option Nat) : Int32 := match o with
  | none => -1
  | some b => nI b
def oBef (rk : Nat → Int32) (a b : Nat) : Prop := (rk a).toInt < (rk b).toInt ∨ ((rk a).toInt = (rk b).toInt ∧ a < b)
theorem sFst_ok (ok : Nat → Bool) (rk : Nat → Int32) : ∀ n : Nat, (sFst ok rk n = none ∧ ∀ d, d < n → ok d = false) ∨ ∃ b, sFst ok rk n = some b ∧ b < n ∧ ok b = true ∧ ∀ d, d < n → ok d = true → d = b ∨ oBef rk b d
  | 0 => Or.inl ⟨rfl, fun d hd => absurd hd (by omega)⟩
  | n + 1 => by
    rw [sFst]
    by_cases hn : ok n = true
    · rw [if_pos hn]
      rcases sFst_ok ok rk n with ⟨e, h⟩ | ⟨b, e, h1, h2, h3⟩
      · rw [e]
        refine Or.inr ⟨n, rfl, by omega, hn, fun d hd hk => ?_⟩
        by_cases z : d = n
        · exact Or.inl z
        · have := h d (by omega)
          rw [this] at hk
          cases hk
      · rw [e]
        by_cases hl : rk n < rk b
        · refine Or.inr ⟨n, by show (if rk n < rk b then some n else some b) = _; rw [if_pos hl], by omega, hn, fun d hd hk => ?_⟩
          have hl' := iLt.mp hl
          by_cases z : d = n
          · exact Or.inl z
          · refine Or.inr (Or.inl ?_)
            rcases h3 d (by omega) hk with rfl | h | h
            · exact hl'
            · omega
            · omega
        · refine Or.inr ⟨b, by show (if rk n < rk b then some n else some b) = _; rw [if_neg hl], by omega, h2, fun d hd hk => ?_⟩
          have hl' : ¬ (rk n).toInt < (rk b).toInt := fun q => hl (iLt.mpr q)
          by_cases z : d = n
          · subst z
            refine Or.inr ?_
            unfold oBef
            omega
          · exact h3 d (by omega) hk
    · rw [if_neg hn]
      have hn' : ok n = false := by
        cases h : ok n with
        | false => rfl
        | true => exact absurd h hn
      rcases sFst_ok ok rk n with ⟨e, h⟩ | ⟨b, e, h1, h2, h3⟩
      · refine Or.inl ⟨e, fun d hd => ?_⟩
        by_cases z : d = n
        · rw [z]; exact hn'
        · exact h d (by omega)
      · refine Or.inr ⟨b, e, by omega, h2, fun d hd hk => ?_⟩
        by_cases z : d = n
        · rw [z, hn'] at hk
          cases hk
        · exact h3 d (by omega) hk
theorem bI_ne {b : Bool} : ¬ bI b = 0 ↔ b = true := by cases b <;> decide
theorem bI_eq0 {b : Bool} : bI b = 0 ↔ b = false := by cases b <;> decide
theorem sFst_b {ok : Nat → Bool} {rk : Nat → Int32} {n b : Nat} (h : sFst ok rk n = some b) : b < n := by
  rcases sFst_ok ok rk n with ⟨e, -⟩ | ⟨b', e, h1, -⟩
  · rw [e] at h; cases h
  · rw [e] at h; cases h; exact h1
theorem c_Cells_firstUnserved (M : oM) (c n : Nat) (sv : Int32) (hn : n ≤ 4) : oCt 1 k_Cells_firstUnserved [.inr (K_CELLS, c), .inl (nI n), .inl sv] M (fun r M' => r = some (nI ((sFst (fun d => !tb sv d) (M K_RNK c) n).getD 0)) ∧ M' = M) := by
  refine oCt.of (ls := [some (.inr (K_CELLS, c)), some (.inl (nI n)), some (.inl sv), none, none]) mok_Cells_firstUnserved rfl rfl ?_
  refine oRun_ok 4 rfl ?_
  have loop : ∀ (q d : Nat), d + q = n → oG k_Cells_firstUnserved 1 5 [some (.inr (K_CELLS, c)), some (.inl (nI n)), some (.inl sv), some (.inl (oFst (sFst (fun d => !tb sv d) (M K_RNK c) d))), some (.inl (nI d))] [] M (fun r M' => r = some (nI ((sFst (fun d => !tb sv d) (M K_RNK c) n).getD 0)) ∧ M' = M) := by
    intro q
    induction q with
    | zero =>
      intro d hd
      have hd : d = n := by omega
      subst hd
      refine oRun_ok 2 rfl ?_
      refine g_ic_ge rfl (fun _ => ?_) (fun h => absurd (Int32.le_refl _) h)
      refine oRun_ok 2 rfl ?_
      refine g_callS rfl rfl rfl rfl mok_Math_max (by decide) (c_Math_max M _ _) ?_
      rintro r51 M51 ⟨rfl, e⟩; rw [e]
      refine g_iret rfl rfl rfl ⟨?_, rfl⟩
      cases hz : sFst (fun d => !tb sv d) (M K_RNK c) d with
      | none => rfl
      | some b =>
        have hb := sFst_b hz
        show some (f_Math_max (nI b) 0) = some (nI b)
        congr 1
        rw [iEq, max_t, show (0 : Int32).toInt = 0 from rfl, nIt (by omega), if_neg (by omega)]
    | succ q ih =>
      intro d hd
      refine oRun_ok 2 rfl ?_
      refine g_ic_ge rfl (fun h8 => ?_) (fun _ => ?_)
      · rw [nIle (by omega) (by omega)] at h8
        omega
      refine oRun_ok 5 rfl ?_
      rw [bit_at _ (by omega)]
      have fin : ∀ o, oFst (sFst (fun d => !tb sv d) (M K_RNK c) (d + 1)) = o → oG k_Cells_firstUnserved 1 43 [some (.inr (K_CELLS, c)), some (.inl (nI n)), some (.inl sv), some (.inl o), some (.inl (nI d))] [] M (fun r M' => r = some (nI ((sFst (fun d => !tb sv d) (M K_RNK c) n).getD 0)) ∧ M' = M) := by
        rintro o rfl
        refine oRun_ok 2 rfl ?_
        rw [nI_1]
        exact ih (d + 1) (by omega)
      refine g_if_ne rfl (fun h17 => ?_) (fun h17 => ?_)
      · have h17 := bI_ne.mp h17
        refine fin _ ?_
        rw [sFst, if_neg (by rw [h17]; decide)]
      · have h17 : tb sv d = false := by
          cases hz : tb sv d with
          | false => rfl
          | true => rw [hz] at h17; exact absurd h17 (by decide)
        refine oRun_ok 1 rfl ?_
        have take : (sFst (fun d => !tb sv d) (M K_RNK c) (d + 1) = some d) → oG k_Cells_firstUnserved 1 40 [some (.inr (K_CELLS, c)), some (.inl (nI n)), some (.inl sv), some (.inl (oFst (sFst (fun d => !tb sv d) (M K_RNK c) d))), some (.inl (nI d))] [] M (fun r M' => r = some (nI ((sFst (fun d => !tb sv d) (M K_RNK c) n).getD 0)) ∧ M' = M) := by
          intro h
          refine oRun_ok 2 rfl ?_
          refine fin _ ?_
          rw [h]
          rfl
        have hok : (fun d => !tb sv d) d = true := by
          show (!tb sv d) = true
          rw [h17]; rfl
        refine g_if_lt rfl (fun h21 => ?_) (fun h21 => ?_)
        · refine take ?_
          rw [sFst, if_pos hok]
          cases hz : sFst (fun d => !tb sv d) (M K_RNK c) d with
          | none => rfl
          | some b =>
            have hb := sFst_b hz
            exfalso
            rw [hz] at h21
            have h21 := iLt.mp h21
            rw [show (oFst (some b)) = nI b from rfl, nIt (by omega), show (0 : Int32).toInt = 0 from rfl] at h21
            omega
        · cases hz : sFst (fun d => !tb sv d) (M K_RNK c) d with
          | none =>
            exfalso
            rw [hz] at h21
            exact h21 (by decide)
          | some b =>
            have hb := sFst_b hz
            rw [hz] at take
            rw [show oFst (some b) = nI b from rfl] at take ⊢
            refine oRun_ok 3 rfl ?_
            refine g_iald d rfl rfl rfl (by omega) ?_
            refine oRun_ok 3 rfl ?_
            refine g_iald b rfl rfl rfl (by omega) ?_
            refine g_ic_ge rfl (fun h37 => ?_) (fun h37 => ?_)
            · refine fin _ ?_
              rw [sFst, if_pos hok, hz]
              show oFst (if M K_RNK c d < M K_RNK c b then some d else some b) = nI b
              rw [if_neg (fun q => Int32.not_lt.mpr h37 q)]
              rfl
            · refine take ?_
              rw [sFst, if_pos hok, hz]
              show (if M K_RNK c d < M K_RNK c b then some d else some b) = some d
              rw [if_pos (Int32.not_le.mp h37)]
  exact loop n 0 (by omega)
