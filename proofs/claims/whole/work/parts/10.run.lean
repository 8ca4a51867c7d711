/-! ===== runs of instructions that take no decision ===== -/
def oNth {α : Type} : List α → Nat → Option α
  | [], _ => none
  | a :: _, 0 => some a
  | _ :: r, n + 1 => oNth r n
theorem oNth_eq {α : Type} : ∀ (l : List α) (n : Nat), oNth l n = l[n]?
  | [], n => by simp [oNth]
  | a :: r, 0 => rfl
  | a :: r, n + 1 => by
    rw [List.getElem?_cons_succ]
    exact oNth_eq r n
def oIsI : FieldType → Bool
  | .int => true
  | _ => false
def oPutOk (ci f : Nat) : Bool := !((oCl ci).2.1 f).2.2.2 && oIsI (oTy ci f)
def oLkI : List (Int × Int32) → Int → Option Int32
  | [], _ => none
  | (a, b) :: r, i => cond (decide (a = i)) (some b) (oLkI r i)
theorem oLkI_mem : ∀ (l : List (Int × Int32)) (i : Int) (r : Int32), oLkI l i = some r → (i, r) ∈ l
  | [], _, _, h => by cases h
  | q :: l, i, r, h => by
    unfold oLkI at h
    by_cases hb : q.1 = i
    · rw [decide_eq_true hb] at h
      have h2 : q.2 = r := by simpa using h
      rw [← hb, ← h2]
      exact List.mem_cons_self
    · rw [decide_eq_false hb] at h
      exact List.mem_cons_of_mem _ (oLkI_mem l i r (by simpa using h))
def oLitC : List (Int × Int32) := [(-8, -8), (-1, -1), (0, 0), (1, 1), (2, 2), (3, 3), (4, 4), (5, 5), (6, 6)]
def oLitB : List (Int × Int32) := [(-100, -100), (-99, -99), (-33, -33), (-11, -11), (-10, -10), (-9, -9), (-8, -8), (-7, -7), (-6, -6), (-5, -5), (-4, -4), (-3, -3), (-2, -2), (6, 6), (7, 7), (8, 8), (9, 9), (10, 10), (11, 11), (12, 12), (13, 13), (14, 14), (15, 15), (16, 16), (20, 20), (24, 24), (30, 30), (32, 32), (33, 33), (35, 35), (38, 38), (40, 40), (41, 41), (42, 42), (43, 43), (45, 45), (47, 47), (48, 48), (50, 50), (57, 57), (60, 60), (61, 61), (62, 62), (63, 63), (96, 96), (97, 97), (99, 99), (100, 100), (101, 101), (102, 102), (104, 104), (105, 105), (108, 108), (110, 110), (114, 114), (115, 115), (116, 116), (120, 120), (121, 121), (122, 122), (124, 124)]
def oLitS : List (Int × Int32) := [(160, 160), (188, 188), (255, 255), (900, 900), (999, 999), (1000, 1000), (1532, 1532), (10000, 10000), (12345, 12345)]
theorem oLitC_ok0 : ∀ e ∈ oLitC, Int32.ofInt e.1 = e.2 := by decide +kernel
theorem oLitB_ok0 : ∀ e ∈ oLitB, (Int8.ofInt e.1).toInt32 = e.2 := by decide +kernel
theorem oLitS_ok0 : ∀ e ∈ oLitS, (Int16.ofInt e.1).toInt32 = e.2 := by decide +kernel
theorem oLitC_ok {n : Int} {v : Int32} (h : oLkI oLitC n = some v) : Int32.ofInt n = v := oLitC_ok0 _ (oLkI_mem _ _ _ h)
theorem oLitB_ok {n : Int} {v : Int32} (h : oLkI oLitB n = some v) : (Int8.ofInt n).toInt32 = v := oLitB_ok0 _ (oLkI_mem _ _ _ h)
theorem oLitS_ok {n : Int} {v : Int32} (h : oLkI oLitS n = some v) : (Int16.ofInt n).toInt32 = v := oLitS_ok0 _ (oLkI_mem _ _ _ h)
abbrev oSt4 : Type := Nat × List (Option oV) × List oV × oM
def oExS (k nx i : Nat) (ls : List (Option oV)) (v : oV) (r : List oV) (M : oM) : Option oSt4 := cond (Nat.blt i (oML k)) (match oSL' ls i v with
  | a :: l => some (nx, a :: l, r, M)
  | [] => none) none
def oExL (nx i : Nat) (ls : List (Option oV)) (st : List oV) (M : oM) : Option oSt4 := match oLd ls i with
  | some (.inl x) => some (nx, ls, .inl x :: st, M)
  | _ => none
def oExA (nx i : Nat) (ls : List (Option oV)) (st : List oV) (M : oM) : Option oSt4 := match oLd ls i with
  | some (.inr (kd, j)) => cond (Nat.beq kd K_OPQ) none (some (nx, ls, .inr (kd, j) :: st, M))
  | _ => none
def oEx (k : Nat) (I : Instr) (nx tg : Nat) (ls : List (Option oV)) (st : List oV) (M : oM) : Option oSt4 := match I with
  | .iconst n => (match oLkI oLitC n with
    | some v => some (nx, ls, .inl v :: st, M)
    | none => none)
  | .bipush n => (match oLkI oLitB n with
    | some v => some (nx, ls, .inl v :: st, M)
    | none => none)
  | .sipush n => (match oLkI oLitS n with
    | some v => some (nx, ls, .inl v :: st, M)
    | none => none)
  | .ldc i => (match oLkC (oCL (oMO k)) i with
    | some v => some (nx, ls, .inl v :: st, M)
    | none => none)
  | .ldc_w i => (match oLkC (oCL (oMO k)) i with
    | some v => some (nx, ls, .inl v :: st, M)
    | none => none)
  | .iload i => oExL nx i ls st M
  | .iload_n i => oExL nx i.val ls st M
  | .aload i => oExA nx i ls st M
  | .aload_n i => oExA nx i.val ls st M
  | .istore i => (match st with
    | .inl x :: r => oExS k nx i ls (.inl x) r M
    | _ => none)
  | .istore_n i => (match st with
    | .inl x :: r => oExS k nx i.val ls (.inl x) r M
    | _ => none)
  | .astore i => (match st with
    | .inr q :: r => cond (Nat.beq q.1 K_OPQ) none (oExS k nx i ls (.inr q) r M)
    | _ => none)
  | .astore_n i => (match st with
    | .inr q :: r => cond (Nat.beq q.1 K_OPQ) none (oExS k nx i.val ls (.inr q) r M)
    | _ => none)
  | .iinc i n => (match oLd ls i with
    | some (.inl x) => (match oLkI oLitC n with
      | some v => oExS k nx i ls (.inl (x + v)) st M
      | none => none)
    | _ => none)
  | .iadd => (match st with
    | .inl y :: .inl x :: r => some (nx, ls, .inl (x + y) :: r, M)
    | _ => none)
  | .isub => (match st with
    | .inl y :: .inl x :: r => some (nx, ls, .inl (x - y) :: r, M)
    | _ => none)
  | .imul => (match st with
    | .inl y :: .inl x :: r => some (nx, ls, .inl (x * y) :: r, M)
    | _ => none)
  | .iand => (match st with
    | .inl y :: .inl x :: r => some (nx, ls, .inl (x &&& y) :: r, M)
    | _ => none)
  | .ior => (match st with
    | .inl y :: .inl x :: r => some (nx, ls, .inl (x ||| y) :: r, M)
    | _ => none)
  | .ixor => (match st with
    | .inl y :: .inl x :: r => some (nx, ls, .inl (x ^^^ y) :: r, M)
    | _ => none)
  | .ishl => (match st with
    | .inl y :: .inl x :: r => some (nx, ls, .inl (x <<< (y &&& 31)) :: r, M)
    | _ => none)
  | .ishr => (match st with
    | .inl y :: .inl x :: r => some (nx, ls, .inl (x >>> (y &&& 31)) :: r, M)
    | _ => none)
  | .iushr => (match st with
    | .inl y :: .inl x :: r => some (nx, ls, .inl (oUshr x y) :: r, M)
    | _ => none)
  | .idiv => (match st with
    | .inl y :: .inl x :: r => cond (decide (y = 0)) none (some (nx, ls, .inl (x / y) :: r, M))
    | _ => none)
  | .irem => (match st with
    | .inl y :: .inl x :: r => cond (decide (y = 0)) none (some (nx, ls, .inl (oRem x y) :: r, M))
    | _ => none)
  | .ineg => (match st with
    | .inl x :: r => some (nx, ls, .inl (-x) :: r, M)
    | _ => none)
  | .i2s => (match st with
    | .inl x :: r => some (nx, ls, .inl x.toInt16.toInt32 :: r, M)
    | _ => none)
  | .i2c => (match st with
    | .inl x :: r => some (nx, ls, .inl (x.toUInt32 % 65536).toInt32 :: r, M)
    | _ => none)
  | .dup => (match st with
    | v :: r => some (nx, ls, v :: v :: r, M)
    | _ => none)
  | .dup2 => (match st with
    | v :: u :: r => some (nx, ls, v :: u :: v :: u :: r, M)
    | _ => none)
  | .pop => (match st with
    | _ :: r => some (nx, ls, r, M)
    | _ => none)
  | .goto _ => some (tg, ls, st, M)
  | .getfield i => (match st with
    | .inr (kd, j) :: r => (match oLkF (oFL (oMO k)) i with
      | some (ci, f) => (match oKD kd with
        | .inl (cj, fds) => cond (Nat.beq ci cj) (match oNth fds f with
          | some none => some (nx, ls, .inl (M kd j f) :: r, M)
          | some (some (k', 0, b)) => some (nx, ls, .inr (k', b) :: r, M)
          | some (some (k', 1, 0)) => some (nx, ls, .inr (k', j) :: r, M)
          | some (some (k', 1, b + 1)) => some (nx, ls, .inr (k', j + (b + 1)) :: r, M)
          | some (some (k', a + 2, b)) => some (nx, ls, .inr (k', (a + 2) * j + b) :: r, M)
          | none => none) none
        | .inr _ => none)
      | none => none)
    | _ => none)
  | .putfield i => (match st with
    | .inl v :: .inr (kd, j) :: r => (match oLkF (oFL (oMO k)) i with
      | some (ci, f) => (match oKD kd with
        | .inl (cj, fds) => cond (Nat.beq ci cj && oPutOk ci f) (match oNth fds f with
          | some none => some (nx, ls, r, oUp M kd j f v)
          | _ => none) none
        | .inr _ => none)
      | none => none)
    | _ => none)
  | _ => none
def oSt (k pc : Nat) (ls : List (Option oV)) (st : List oV) (M : oM) : Option oSt4 := match oFt k pc with
  | some (I, nx, tg) => oEx k I nx tg ls st M
  | none => none
def oRun (k : Nat) : Nat → Nat → List (Option oV) → List oV → oM → Option oSt4
  | 0, pc, ls, st, M => some (pc, ls, st, M)
  | n + 1, pc, ls, st, M => match oSt k pc ls st M with
    | some (pc', ls', st', M') => oRun k n pc' ls' st' M'
    | none => none
section RUN
variable {k d pc nx tg : Nat} {ls : List (Option oV)} {st : List oV} {M : oM} {Q : Option Int32 → oM → Prop}
theorem oExS_ok {i : Nat} {v : oV} {r : List oV} {s' : oSt4} (h : oExS k nx i ls v r M = some s') : Nat.blt i (oML k) = true ∧ s' = (nx, oSL' ls i v, r, M) := by
  unfold oExS at h
  cases hb : Nat.blt i (oML k) with
  | false => rw [hb] at h; cases h
  | true =>
    rw [hb] at h
    refine ⟨rfl, ?_⟩
    cases hz : oSL' ls i v with
    | nil => rw [hz] at h; cases h
    | cons a l =>
      rw [hz] at h
      cases h
      rfl
theorem oExL_ok {i : Nat} {s' : oSt4} (h : oExL nx i ls st M = some s') : ∃ x, oLd ls i = some (.inl x) ∧ s' = (nx, ls, .inl x :: st, M) := by
  unfold oExL at h
  split at h
  · rename_i x hx
    cases h
    exact ⟨x, hx, rfl⟩
  · cases h
theorem oExA_ok {i : Nat} {s' : oSt4} (h : oExA nx i ls st M = some s') : ∃ q : Nat × Nat, oLd ls i = some (.inr q) ∧ Nat.beq q.1 K_OPQ = false ∧ s' = (nx, ls, .inr q :: st, M) := by
  unfold oExA at h
  split at h
  · rename_i kd j hx
    cases hb : Nat.beq kd K_OPQ with
    | true => rw [hb] at h; cases h
    | false =>
      rw [hb] at h
      cases h
      exact ⟨(kd, j), hx, hb, rfl⟩
  · cases h
theorem oPutOk_ok {ci f : Nat} (h : oPutOk ci f = true) : ((oCl ci).2.1 f).2.2.2 = false ∧ oTy ci f = .int := by
  unfold oPutOk at h
  simp only [Bool.and_eq_true, Bool.not_eq_true'] at h
  refine ⟨h.1, ?_⟩
  cases hz : oTy ci f <;> rw [hz] at h <;> first | rfl | (exact absurd h.2 (by simp [oIsI]))
theorem oEx_ok {I : Instr} {s' : oSt4} (hf : oFt k pc = some (I, nx, tg)) (h : oEx k I nx tg ls st M = some s') (kk : oG k d s'.1 s'.2.1 s'.2.2.1 s'.2.2.2 Q) : oG k d pc ls st M Q := by
  unfold oEx at h
  split at h
  · split at h
    · rename_i v hv; cases h; exact g_iconst hf (oLitC_ok hv) kk
    · cases h
  · split at h
    · rename_i v hv; cases h; exact g_bipush hf (oLitB_ok hv) kk
    · cases h
  · split at h
    · rename_i v hv; cases h; exact g_sipush hf (oLitS_ok hv) kk
    · cases h
  · split at h
    · rename_i v hv; cases h; exact g_ldc hf hv kk
    · cases h
  · split at h
    · rename_i v hv; cases h; exact g_ldcw hf hv kk
    · cases h
  · obtain ⟨x, h1, rfl⟩ := oExL_ok h; exact g_iload hf h1 kk
  · obtain ⟨x, h1, rfl⟩ := oExL_ok h; exact g_iload_n hf h1 kk
  · obtain ⟨x, h1, h2, rfl⟩ := oExA_ok h; exact g_aload hf h1 h2 kk
  · obtain ⟨x, h1, h2, rfl⟩ := oExA_ok h; exact g_aload_n hf h1 h2 kk
  · split at h
    · obtain ⟨h1, rfl⟩ := oExS_ok h; exact g_istore hf h1 kk
    · cases h
  · split at h
    · obtain ⟨h1, rfl⟩ := oExS_ok h; exact g_istore_n hf h1 kk
    · cases h
  · split at h
    · rename_i q r
      cases hb : Nat.beq q.1 K_OPQ with
      | true => rw [hb] at h; cases h
      | false => rw [hb] at h; obtain ⟨h1, rfl⟩ := oExS_ok h; exact g_astore hf h1 hb kk
    · cases h
  · split at h
    · rename_i q r
      cases hb : Nat.beq q.1 K_OPQ with
      | true => rw [hb] at h; cases h
      | false => rw [hb] at h; obtain ⟨h1, rfl⟩ := oExS_ok h; exact g_astore_n hf h1 hb kk
    · cases h
  · split at h
    · rename_i x hx
      split at h
      · rename_i v hv; obtain ⟨h1, rfl⟩ := oExS_ok h; exact g_iinc hf h1 hx (by rw [oLitC_ok hv]) kk
      · cases h
    · cases h
  · split at h
    · cases h; exact g_iadd hf kk
    · cases h
  · split at h
    · cases h; exact g_isub hf kk
    · cases h
  · split at h
    · cases h; exact g_imul hf kk
    · cases h
  · split at h
    · cases h; exact g_iand hf kk
    · cases h
  · split at h
    · cases h; exact g_ior hf kk
    · cases h
  · split at h
    · cases h; exact g_ixor hf kk
    · cases h
  · split at h
    · cases h; exact g_ishl hf kk
    · cases h
  · split at h
    · cases h; exact g_ishr hf kk
    · cases h
  · split at h
    · cases h; exact g_iushr hf kk
    · cases h
  · split at h
    · rename_i y x r
      by_cases hy : y = 0
      · rw [decide_eq_true hy] at h; cases h
      · rw [decide_eq_false hy] at h; cases h; exact g_idiv hf hy kk
    · cases h
  · split at h
    · rename_i y x r
      by_cases hy : y = 0
      · rw [decide_eq_true hy] at h; cases h
      · rw [decide_eq_false hy] at h; cases h; exact g_irem hf hy kk
    · cases h
  · split at h
    · cases h; exact g_ineg hf kk
    · cases h
  · split at h
    · cases h; exact g_i2s hf kk
    · cases h
  · split at h
    · cases h; exact g_i2c hf kk
    · cases h
  · split at h
    · cases h; exact g_dup hf kk
    · cases h
  · split at h
    · cases h; exact g_dup2 hf kk
    · cases h
  · split at h
    · cases h; exact g_pop hf kk
    · cases h
  · cases h; exact g_goto hf kk
  · split at h
    · rename_i kd j r
      split at h
      · rename_i ci f hl
        split at h
        · rename_i cj fds hk
          cases hb : Nat.beq ci cj with
          | false => rw [hb] at h; cases h
          | true =>
            rw [hb] at h
            have e : ci = cj := Nat.eq_of_beq_eq_true hb
            subst e
            simp only [cond_true] at h
            split at h
            · rename_i hn; cases h
              exact g_get (fd := none) hf hl hk (by rw [← oNth_eq]; exact hn) rfl kk
            · rename_i k' b hn; cases h
              refine g_get (fd := some (k', 0, b)) hf hl hk (by rw [← oNth_eq]; exact hn) ?_ kk
              show Sum.inr (k', b) = Sum.inr (k', 0 * j + b)
              rw [Nat.zero_mul, Nat.zero_add]
            · rename_i k' hn; cases h
              refine g_get (fd := some (k', 1, 0)) hf hl hk (by rw [← oNth_eq]; exact hn) ?_ kk
              show Sum.inr (k', j) = Sum.inr (k', 1 * j + 0)
              rw [Nat.one_mul, Nat.add_zero]
            · rename_i k' b hn; cases h
              refine g_get (fd := some (k', 1, b + 1)) hf hl hk (by rw [← oNth_eq]; exact hn) ?_ kk
              show Sum.inr (k', j + (b + 1)) = Sum.inr (k', 1 * j + (b + 1))
              rw [Nat.one_mul]
            · rename_i k' a b hn; cases h
              exact g_get (fd := some (k', a + 2, b)) hf hl hk (by rw [← oNth_eq]; exact hn) rfl kk
            · cases h
        · cases h
      · cases h
    · cases h
  · split at h
    · rename_i v kd j r
      split at h
      · rename_i ci f hl
        split at h
        · rename_i cj fds hk
          cases hb : (Nat.beq ci cj && oPutOk ci f) with
          | false => rw [hb] at h; cases h
          | true =>
            rw [hb] at h
            rw [Bool.and_eq_true] at hb
            have e : ci = cj := Nat.eq_of_beq_eq_true hb.1
            subst e
            obtain ⟨p1, p2⟩ := oPutOk_ok hb.2
            simp only [cond_true] at h
            split at h
            · rename_i hn; cases h
              exact g_put hf hl hk (by rw [← oNth_eq]; exact hn) p1 (by rw [p2]; rfl) (by rw [p2]; rfl) kk
            · cases h
        · cases h
      · cases h
    · cases h
  · cases h
theorem oRun_ok : ∀ (n : Nat) {pc : Nat} {ls : List (Option oV)} {st : List oV} {M : oM} {pc' : Nat} {ls' : List (Option oV)} {st' : List oV} {M' : oM}, oRun k n pc ls st M = some (pc', ls', st', M') → oG k d pc' ls' st' M' Q → oG k d pc ls st M Q
  | 0, pc, ls, st, M, pc', ls', st', M', h, kk => by
    cases h
    exact kk
  | n + 1, pc, ls, st, M, pc', ls', st', M', h, kk => by
    unfold oRun at h
    split at h
    · rename_i pc1 ls1 st1 M1 h1
      have k1 := oRun_ok n h kk
      unfold oSt at h1
      split at h1
      · rename_i I nx tg hf
        exact oEx_ok hf h1 k1
      · cases h1
    · cases h
end RUN
