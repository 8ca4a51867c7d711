/-! ===== Cells.fillOwners ===== -/
theorem sFst_congr {ok ok' : Nat → Bool} {rk rk' : Nat → Int32} : ∀ {n : Nat}, (∀ d, d < n → ok d = ok' d) → (∀ d, d < n → rk d = rk' d) → sFst ok rk n = sFst ok' rk' n
  | 0, _, _ => rfl
  | n + 1, h1, h2 => by
    have e := sFst_congr (n := n) (fun d hd => h1 d (by omega)) (fun d hd => h2 d (by omega))
    rw [sFst, sFst, e, h1 n (by omega)]
    cases hz : sFst ok' rk' n with
    | none => rfl
    | some b =>
      have hb := sFst_b hz
      show (if ok' n = true then (if rk n < rk b then some n else some b) else some b) = (if ok' n = true then (if rk' n < rk' b then some n else some b) else some b)
      rw [h2 n (by omega), h2 b (by omega)]
/-- how many of the first n -/
def sCnt (p : Nat → Bool) : Nat → Nat
  | 0 => 0
  | n + 1 => sCnt p n + (if p n = true then 1 else 0)
theorem sCnt_le (p : Nat → Bool) : ∀ n, sCnt p n ≤ n
  | 0 => Nat.le_refl _
  | n + 1 => by
    have := sCnt_le p n
    rw [sCnt]
    split <;> omega
theorem sCnt_all {p : Nat → Bool} : ∀ {n : Nat}, sCnt p n = n → ∀ d, d < n → p d = true
  | 0, _, d, hd => absurd hd (by omega)
  | n + 1, h, d, hd => by
    have hl := sCnt_le p n
    rw [sCnt] at h
    by_cases hp : p n = true
    · rw [if_pos hp] at h
      by_cases z : d = n
      · rw [z]; exact hp
      · exact sCnt_all (n := n) (by omega) d (by omega)
    · rw [if_neg hp] at h
      omega
theorem sCnt_full {p : Nat → Bool} : ∀ {n : Nat}, (∀ d, d < n → p d = true) → sCnt p n = n
  | 0, _ => rfl
  | n + 1, h => by
    rw [sCnt, if_pos (h n (by omega)), sCnt_full (fun d hd => h d (by omega))]
theorem sCnt_congr {p p' : Nat → Bool} : ∀ {n : Nat}, (∀ d, d < n → p d = p' d) → sCnt p n = sCnt p' n
  | 0, _ => rfl
  | n + 1, h => by
    rw [sCnt, sCnt, h n (by omega), sCnt_congr (fun d hd => h d (by omega))]
theorem sCnt_add {p p' : Nat → Bool} {f : Nat} (h : ∀ d, p' d = (p d || decide (d = f))) (hf : p f = false) : ∀ {n : Nat}, f < n → sCnt p' n = sCnt p n + 1
  | 0, hn => absurd hn (by omega)
  | n + 1, hn => by
    rw [sCnt, sCnt]
    by_cases z : f = n
    · subst z
      have e : sCnt p' f = sCnt p f := sCnt_congr (fun d hd => by rw [h d, decide_eq_false (by omega), Bool.or_false])
      rw [e, hf, h f, hf, decide_eq_true rfl]
      rfl
    · have e := sCnt_add h hf (n := n) (by omega)
      rw [e, h n, decide_eq_false (fun q => z q.symm), Bool.or_false]
      omega
/-- the owner of a cell -/
def sOwn (N : Nat → Int32) (x y : Int) : Option Nat := sFst (fun d => sHeld N d x y) (sRk N) (cD N)
def oOs (w c : Nat) : Nat → Nat → Prop := fun k i => oWs w k i ∨ (k = K_HROW ∧ 4 * c ≤ i ∧ i < 4 * c + 4) ∨ (i = c ∧ (k = K_NOB ∨ k = K_RNK))
theorem oOs_kp (w c : Nat) : ∀ k ∈ oRLk, ∀ i, ¬ oOs w c k i := by
  intro k hk i h
  rcases h with h | ⟨rfl, -⟩ | ⟨-, rfl | rfl⟩
  · exact oWs_kp w k hk i h
  · revert hk
    decide
  · revert hk
    decide
  · revert hk
    decide
def Q_owners (M : oM) (N : Nat → Int32) (w c : Nat) : Option Int32 → oM → Prop := fun o M' => o = none ∧ (∀ d, d < cD N → ∀ y, y < 30 → ∀ x : Nat, tb (M' K_HROW (4 * c + d) y) x = true ↔ x < 30 ∧ sOwn N x y = some d) ∧ (∀ y, y < 30 → ∀ x : Nat, tb (M' K_NOB c y) x = true ↔ x < 30 ∧ sOwn N x y = none) ∧ oFr (oOs w c) M M'
/-- after some turns -/
def oTn (N : Nat → Int32) (c : Nat) (sv : Int32) (t : Nat) (M1 : oM) : Prop := (sCnt (tb sv) (cD N) = t) ∧ (∀ s u, s < cD N → u < cD N → tb sv s = true → tb sv u = false → oBef (sRk N) s u) ∧ (∀ d, d < cD N → M1 K_RNK c d = sRk N d) ∧ (∀ y, y < 30 → ∀ x : Nat, tb (M1 K_NOB c y) x = true ↔ x < 30 ∧ ∀ d, d < cD N → tb sv d = true → sHeld N d x y = false) ∧ (∀ d, d < cD N → ∀ y, y < 30 → ∀ x : Nat, tb (M1 K_HROW (4 * c + d) y) x = true ↔ x < 30 ∧ sHeld N d x y = true ∧ (tb sv d = true → ∀ e, e < cD N → tb sv e = true → oBef (sRk N) e d → sHeld N e x y = false))
theorem oTn.cnt {N : Nat → Int32} {c : Nat} {sv : Int32} {t : Nat} {M1 : oM} (h : oTn N c sv t M1) : sCnt (tb sv) (cD N) = t := h.1
theorem oTn.bef {N : Nat → Int32} {c : Nat} {sv : Int32} {t : Nat} {M1 : oM} (h : oTn N c sv t M1) : ∀ s u, s < cD N → u < cD N → tb sv s = true → tb sv u = false → oBef (sRk N) s u := h.2.1
theorem oTn.rk {N : Nat → Int32} {c : Nat} {sv : Int32} {t : Nat} {M1 : oM} (h : oTn N c sv t M1) : ∀ d, d < cD N → M1 K_RNK c d = sRk N d := h.2.2.1
theorem oTn.nob {N : Nat → Int32} {c : Nat} {sv : Int32} {t : Nat} {M1 : oM} (h : oTn N c sv t M1) : ∀ y, y < 30 → ∀ x : Nat, tb (M1 K_NOB c y) x = true ↔ x < 30 ∧ ∀ d, d < cD N → tb sv d = true → sHeld N d x y = false := h.2.2.2.1
theorem oTn.row {N : Nat → Int32} {c : Nat} {sv : Int32} {t : Nat} {M1 : oM} (h : oTn N c sv t M1) : ∀ d, d < cD N → ∀ y, y < 30 → ∀ x : Nat, tb (M1 K_HROW (4 * c + d) y) x = true ↔ x < 30 ∧ sHeld N d x y = true ∧ (tb sv d = true → ∀ e, e < cD N → tb sv e = true → oBef (sRk N) e d → sHeld N e x y = false) := h.2.2.2.2
theorem oBef_irr {rk : Nat → Int32} {a b : Nat} (h : oBef rk a b) (h' : oBef rk b a) : False := by
  unfold oBef at h h'
  omega
theorem oBef_tot {rk : Nat → Int32} {a b : Nat} (h : ¬ a = b) (h' : ¬ oBef rk a b) : oBef rk b a := by
  unfold oBef at h' ⊢
  omega
theorem oBef_rf {rk : Nat → Int32} {a : Nat} (h : oBef rk a a) : False := oBef_irr h h
/-- one turn -/
theorem oTn_next {N : Nat → Int32} {c t f : Nat} {sv : Int32} {M1 M2 : oM} (h : oTn N c sv t M1) (hd4 : cD N ≤ 4) (hf : sFst (fun d => !tb sv d) (sRk N) (cD N) = some f)
    (hr : ∀ y, y < 30 → M2 K_HROW (4 * c + f) y = M1 K_HROW (4 * c + f) y &&& M1 K_NOB c y) (hn : ∀ y, y < 30 → M2 K_NOB c y = M1 K_NOB c y &&& ((M1 K_HROW (4 * c + f) y &&& M1 K_NOB c y) ^^^ (-1))) (ho : ∀ d, ¬ d = f → M2 K_HROW (4 * c + d) = M1 K_HROW (4 * c + d)) (hk : M2 K_RNK c = M1 K_RNK c) : oTn N c (sv ||| ((1 : Int32) <<< (nI f &&& 31))) (t + 1) M2 := by
  obtain ⟨f', e', f1, f2, f3⟩ : ∃ b, sFst (fun d => !tb sv d) (sRk N) (cD N) = some b ∧ b < cD N ∧ (!tb sv b) = true ∧ ∀ d, d < cD N → (!tb sv d) = true → d = b ∨ oBef (sRk N) b d := by
    rcases sFst_ok (fun d => !tb sv d) (sRk N) (cD N) with ⟨e, -⟩ | h
    · rw [e] at hf; cases hf
    · exact h
  rw [hf] at e'
  cases e'
  have f2 : tb sv f = false := by simpa using f2
  have f3 : ∀ d, d < cD N → tb sv d = false → d = f ∨ oBef (sRk N) f d := fun d hd q => f3 d hd (by rw [q]; rfl)
  have hs : ∀ d, tb (sv ||| ((1 : Int32) <<< (nI f &&& 31))) d = (tb sv d || decide (d = f)) := fun d => by rw [tb_or, tb_shl (by omega)]
  generalize sv ||| ((1 : Int32) <<< (nI f &&& 31)) = sv' at hs
  have hsT : ∀ d, tb sv' d = true ↔ tb sv d = true ∨ d = f := fun d => by rw [hs d, Bool.or_eq_true, decide_eq_true_eq]
  have rowf : ∀ y, y < 30 → ∀ x : Nat, tb (M2 K_HROW (4 * c + f) y) x = true ↔ x < 30 ∧ sHeld N f x y = true ∧ ∀ d, d < cD N → tb sv d = true → sHeld N d x y = false := by
    intro y hy x
    rw [hr y hy, tb_and, Bool.and_eq_true, h.row f f1 y hy x, h.nob y hy x]
    constructor
    · rintro ⟨⟨a1, a2, -⟩, -, a3⟩
      exact ⟨a1, a2, a3⟩
    · rintro ⟨a1, a2, a3⟩
      refine ⟨⟨a1, a2, fun q => ?_⟩, a1, a3⟩
      rw [f2] at q
      cases q
  refine ⟨?_, ?_, ?_, ?_, ?_⟩
  · rw [sCnt_add hs f2 f1, h.cnt]
  · intro s u hs' hu a1 a2
    have a2' : tb sv u = false ∧ ¬ u = f := by
      rw [hs u] at a2
      simpa using a2
    rcases (hsT s).mp a1 with q | rfl
    · exact h.bef s u hs' hu q a2'.1
    · rcases f3 u hu a2'.1 with q | q
      · exact absurd q a2'.2
      · exact q
  · intro d hd
    rw [hk]
    exact h.rk d hd
  · intro y hy x
    rw [hn y hy, ← hr y hy, tb_and, tb_xor, Bool.and_eq_true, h.nob y hy x]
    by_cases hx : x < 30
    · rw [tb_m1 (by omega), Bool.xor_true]
      have hR := rowf y hy x
      constructor
      · rintro ⟨⟨-, a1⟩, a2⟩
        refine ⟨hx, fun d hd q => ?_⟩
        rcases (hsT d).mp q with q | rfl
        · exact a1 d hd q
        · cases hh : sHeld N d x y with
          | false => rfl
          | true =>
            rw [hR.mpr ⟨hx, hh, a1⟩] at a2
            cases a2
      · rintro ⟨-, a1⟩
        refine ⟨⟨hx, fun d hd q => a1 d hd ((hsT d).mpr (Or.inl q))⟩, ?_⟩
        cases hh : tb (M2 K_HROW (4 * c + f) y) x with
        | false => rfl
        | true =>
          have := (hR.mp hh).2.1
          rw [a1 f f1 ((hsT f).mpr (Or.inr rfl))] at this
          cases this
    · constructor
      · rintro ⟨⟨a1, -⟩, -⟩
        exact absurd a1 hx
      · rintro ⟨a1, -⟩
        exact absurd a1 hx
  · intro d hd y hy x
    by_cases z : d = f
    · subst z
      rw [rowf y hy x]
      constructor
      · rintro ⟨a1, a2, a3⟩
        refine ⟨a1, a2, fun _ e he q b => ?_⟩
        rcases (hsT e).mp q with q | rfl
        · exact a3 e he q
        · exact absurd b oBef_rf
      · rintro ⟨a1, a2, a3⟩
        refine ⟨a1, a2, fun e he q => ?_⟩
        exact a3 ((hsT d).mpr (Or.inr rfl)) e he ((hsT e).mpr (Or.inl q)) (h.bef e d he hd q f2)
    · rw [ho d z, h.row d hd y hy x]
      constructor
      · rintro ⟨a1, a2, a3⟩
        refine ⟨a1, a2, fun q e he q' b => ?_⟩
        have q := ((hsT d).mp q).resolve_right z
        rcases (hsT e).mp q' with q' | rfl
        · exact a3 q e he q' b
        · exact absurd b (fun b => oBef_irr b (h.bef d e hd he q f2))
      · rintro ⟨a1, a2, a3⟩
        exact ⟨a1, a2, fun q e he q' b => a3 ((hsT d).mpr (Or.inl q)) e he ((hsT e).mpr (Or.inl q')) b⟩
/-- after all turns -/
theorem oTn_end {N : Nat → Int32} {c : Nat} {sv : Int32} {M1 : oM} (h : oTn N c sv (cD N) M1) : (∀ d, d < cD N → ∀ y, y < 30 → ∀ x : Nat, tb (M1 K_HROW (4 * c + d) y) x = true ↔ x < 30 ∧ sOwn N x y = some d) ∧ (∀ y, y < 30 → ∀ x : Nat, tb (M1 K_NOB c y) x = true ↔ x < 30 ∧ sOwn N x y = none) := by
  have hall := sCnt_all h.cnt
  constructor
  · intro d hd y hy x
    rw [h.row d hd y hy x]
    unfold sOwn
    rcases sFst_ok (fun d => sHeld N d x y) (sRk N) (cD N) with ⟨e, q⟩ | ⟨b, e, b1, b2, b3⟩
    · rw [e]
      constructor
      · rintro ⟨-, a2, -⟩
        have := q d hd
        rw [show sHeld N d x y = false from this] at a2
        cases a2
      · rintro ⟨-, q⟩
        cases q
    · rw [e]
      constructor
      · rintro ⟨a1, a2, a3⟩
        refine ⟨a1, ?_⟩
        rcases b3 d hd a2 with rfl | q
        · rfl
        · have := a3 (hall d hd) b b1 (hall b b1) q
          rw [show sHeld N b x y = true from b2] at this
          cases this
      · rintro ⟨a1, q⟩
        cases q
        refine ⟨a1, b2, fun _ e he _ q => ?_⟩
        cases hh : sHeld N e x y with
        | false => rfl
        | true =>
          exfalso
          rcases b3 e he hh with rfl | q'
          · exact oBef_rf q
          · exact oBef_irr q q'
  · intro y hy x
    rw [h.nob y hy x]
    unfold sOwn
    rcases sFst_ok (fun d => sHeld N d x y) (sRk N) (cD N) with ⟨e, q⟩ | ⟨b, e, b1, b2, b3⟩
    · rw [e]
      exact ⟨fun a => ⟨a.1, rfl⟩, fun a => ⟨a.1, fun d hd _ => q d hd⟩⟩
    · rw [e]
      constructor
      · rintro ⟨-, a⟩
        have := a b b1 (hall b b1)
        rw [show sHeld N b x y = true from b2] at this
        cases this
      · rintro ⟨-, q⟩
        cases q
theorem c_Cells_fillOwners (M : oM) (N : Nat → Int32) (c w : Nat) (hN : oNOk N) (hL : oRL M N w) : oCt 5 k_Cells_fillOwners [.inr (K_CELLS, c), .inr (K_WALK, w)] M (Q_owners M N w c) := by
  obtain ⟨hD, d4⟩ := oND hN
  refine oCt.of (ls := [some (.inr (K_CELLS, c)), some (.inr (K_WALK, w)), none, none, none, none, none]) mok_Cells_fillOwners rfl rfl ?_
  refine oRun_ok 6 rfl ?_
  rw [show M 1 w 4 = nI (cD N) from hL.2.1.trans hD]
  -- the inner loop of a turn
  have inner : ∀ (q y : Nat) (M1 M2 : oM) (t f : Nat) (sv : Int32), y + q = 30 → f < 4 →
      (∀ y', y' < y → M2 K_HROW (4 * c + f) y' = M1 K_HROW (4 * c + f) y' &&& M1 K_NOB c y') → (∀ y', y' < y → M2 K_NOB c y' = M1 K_NOB c y' &&& ((M1 K_HROW (4 * c + f) y' &&& M1 K_NOB c y') ^^^ (-1))) →
      (∀ y', y ≤ y' → M2 K_HROW (4 * c + f) y' = M1 K_HROW (4 * c + f) y') → (∀ y', y ≤ y' → M2 K_NOB c y' = M1 K_NOB c y') → oFr (fun k i => (k = K_HROW ∧ i = 4 * c + f) ∨ (k = K_NOB ∧ i = c)) M1 M2 →
      (∀ M3 x6, (∀ y, y < 30 → M3 K_HROW (4 * c + f) y = M1 K_HROW (4 * c + f) y &&& M1 K_NOB c y) → (∀ y, y < 30 → M3 K_NOB c y = M1 K_NOB c y &&& ((M1 K_HROW (4 * c + f) y &&& M1 K_NOB c y) ^^^ (-1))) → oFr (fun k i => (k = K_HROW ∧ i = 4 * c + f) ∨ (k = K_NOB ∧ i = c)) M1 M3 → oG k_Cells_fillOwners 5 55 [some (.inr (K_CELLS, c)), some (.inr (K_WALK, w)), some (.inl (nI (cD N))), some (.inl sv), some (.inl (nI (t + 1))), some (.inl (nI f)), x6] [] M3 (Q_owners M N w c)) →
      oG k_Cells_fillOwners 5 79 [some (.inr (K_CELLS, c)), some (.inr (K_WALK, w)), some (.inl (nI (cD N))), some (.inl sv), some (.inl (nI t)), some (.inl (nI f)), some (.inl (nI y))] [] M2 (Q_owners M N w c) := by
    intro q
    induction q with
    | zero =>
      intro y M1 M2 t f sv hy hf h1 h2 h3 h4 hfr kk
      have hy : y = 30 := by omega
      subst hy
      refine oRun_ok 2 rfl ?_
      refine g_ic_ge rfl (fun _ => ?_) (fun h => absurd (Int32.le_refl _) h)
      refine oRun_ok 2 rfl ?_
      rw [nI_1]
      exact kk M2 _ h1 h2 hfr
    | succ q ih =>
      intro y M1 M2 t f sv hy hf h1 h2 h3 h4 hfr kk
      refine oRun_ok 2 rfl ?_
      refine g_ic_ge rfl (fun h => ?_) (fun _ => ?_)
      · rw [show (30 : Int32) = nI 30 from rfl, nIle (by omega) (by omega)] at h
        omega
      refine oRun_ok 3 rfl ?_
      refine g_aald f rfl rfl rfl hf rfl ?_
      refine oRun_ok 2 rfl ?_
      refine g_iald y rfl rfl rfl (by omega) ?_
      refine oRun_ok 3 rfl ?_
      refine g_iald y rfl rfl rfl (by omega) ?_
      refine oRun_ok 1 rfl ?_
      refine g_iast y rfl rfl rfl (by omega) ?_
      refine oRun_ok 4 rfl ?_
      refine g_iald y rfl rfl rfl (by omega) ?_
      refine oRun_ok 3 rfl ?_
      refine g_aald f rfl rfl rfl hf rfl ?_
      refine oRun_ok 1 rfl ?_
      refine g_iald y rfl rfl rfl (by omega) ?_
      refine oRun_ok 3 rfl ?_
      refine g_iast y rfl rfl rfl (by omega) ?_
      refine oRun_ok 2 rfl ?_
      rw [nI_1]
      have e1 : M2 14 (4 * c + f) y = M1 K_HROW (4 * c + f) y := h3 y (Nat.le_refl _)
      have e2 : M2 15 c y = M1 K_NOB c y := h4 y (Nat.le_refl _)
      have e3 : ∀ v, oUp M2 14 (4 * c + f) y v 15 c y = M1 K_NOB c y := fun v => by
        rw [oUp_k (by decide)]
        exact e2
      have e4 : ∀ v, oUp M2 14 (4 * c + f) y v 14 (4 * c + f) y = v := fun v => oUp_self
      rw [e1, e2, e3, e4]
      refine ih (y + 1) M1 _ t f sv (by omega) hf (fun y' hy' => ?_) (fun y' hy' => ?_) (fun y' hy' => ?_) (fun y' hy' => ?_) ((hfr.up (Or.inl ⟨rfl, rfl⟩)).up (Or.inr ⟨rfl, rfl⟩)) kk
      · rw [oUp_k (by decide)]
        by_cases z : y' = y
        · subst z
          exact oUp_self
        · exact (oUp_j z).trans (h1 y' (by omega))
      · by_cases z : y' = y
        · subst z
          exact oUp_self
        · refine (oUp_j z).trans ?_
          rw [oUp_k (by decide)]
          exact h2 y' (by omega)
      · rw [oUp_k (by decide)]
        exact (oUp_j (by omega)).trans (h3 y' (by omega))
      · refine (oUp_j (by omega)).trans ?_
        rw [oUp_k (by decide)]
        exact h4 y' (by omega)
  -- the turns
  have turns : ∀ (q t : Nat) (M1 : oM) (sv : Int32) (x5 x6 : Option oV), t + q = cD N → oTn N c sv t M1 → oFr (oOs w c) M M1 → oG k_Cells_fillOwners 5 55 [some (.inr (K_CELLS, c)), some (.inr (K_WALK, w)), some (.inl (nI (cD N))), some (.inl sv), some (.inl (nI t)), x5, x6] [] M1 (Q_owners M N w c) := by
    intro q
    induction q with
    | zero =>
      intro t M1 sv x5 x6 ht hT hf
      have ht : t = cD N := by omega
      rw [ht] at hT ⊢
      refine oRun_ok 2 rfl ?_
      refine g_ic_ge rfl (fun _ => ?_) (fun h => absurd (Int32.le_refl _) h)
      exact g_ret rfl rfl ⟨rfl, (oTn_end hT).1, (oTn_end hT).2, hf⟩
    | succ q ih =>
      intro t M1 sv x5 x6 ht hT hf
      refine oRun_ok 2 rfl ?_
      refine g_ic_ge rfl (fun h => ?_) (fun _ => ?_)
      · rw [nIle (by omega) (by omega)] at h
        omega
      refine oRun_ok 3 rfl ?_
      refine g_callV rfl rfl rfl rfl rfl mok_Cells_firstUnserved (by decide) (c_Cells_firstUnserved M1 c (cD N) sv d4) ?_
      rintro r64 M64 ⟨rfl, e⟩; rw [e]
      have ef : sFst (fun d => !tb sv d) (M1 K_RNK c) (cD N) = sFst (fun d => !tb sv d) (sRk N) (cD N) := sFst_congr (fun _ _ => rfl) hT.rk
      rw [ef]
      obtain ⟨f, hfs⟩ : ∃ f, sFst (fun d => !tb sv d) (sRk N) (cD N) = some f := by
        rcases sFst_ok (fun d => !tb sv d) (sRk N) (cD N) with ⟨-, q'⟩ | ⟨b, e', -⟩
        · exfalso
          have := sCnt_full (p := tb sv) (n := cD N) (fun d hd => by simpa using q' d hd)
          rw [hT.cnt] at this
          omega
        · exact ⟨b, e'⟩
      have hf4 := sFst_b hfs
      rw [hfs]
      show oG k_Cells_fillOwners 5 67 [some (.inr (K_CELLS, c)), some (.inr (K_WALK, w)), some (.inl (nI (cD N))), some (.inl sv), some (.inl (nI t)), x5, x6] [.inl (nI f)] M1 (Q_owners M N w c)
      refine oRun_ok 9 rfl ?_
      refine inner 30 0 M1 M1 t f _ (by omega) (by omega) (fun y' h => absurd h (by omega)) (fun y' h => absurd h (by omega)) (fun _ _ => rfl) (fun _ _ => rfl) oFr.rf ?_
      intro M3 x6' g1 g2 g3
      refine ih (t + 1) M3 _ _ _ (by omega) (oTn_next hT d4 hfs g1 g2 (fun d hd => ?_) ?_) (hf.tr (g3.mono (fun k i q => ?_)))
      · refine g3 _ _ ?_
        rintro (⟨-, q⟩ | ⟨q, -⟩)
        · omega
        · exact absurd q (by decide)
      · refine g3 _ _ ?_
        rintro (⟨q, -⟩ | ⟨q, -⟩) <;> exact absurd q (by decide)
      · rcases q with ⟨rfl, rfl⟩ | ⟨rfl, rfl⟩
        · exact Or.inr (Or.inl ⟨rfl, by omega, by omega⟩)
        · exact Or.inr (Or.inr ⟨rfl, Or.inl rfl⟩)
  -- the filling
  have fills : ∀ (q d : Nat) (M1 : oM), d + q = cD N → (∀ e, e < d → M1 K_RNK c e = sRk N e) → (∀ e, e < d → ∀ y, y < 30 → ∀ x : Nat, tb (M1 K_HROW (4 * c + e) y) x = (decide (x < 30) && sHeld N e x y)) → oFr (oOs w c) M M1 → oG k_Cells_fillOwners 5 10 [some (.inr (K_CELLS, c)), some (.inr (K_WALK, w)), some (.inl (nI (cD N))), some (.inl (nI d)), none, none, none] [] M1 (Q_owners M N w c) := by
    intro q
    induction q with
    | zero =>
      intro d M1 hd hr hb hf
      have hd : d = cD N := by omega
      rw [hd] at hr hb ⊢
      refine oRun_ok 2 rfl ?_
      refine g_ic_ge rfl (fun _ => ?_) (fun h => absurd (Int32.le_refl _) h)
      refine oRun_ok 3 rfl ?_
      refine g_callS rfl rfl rfl rfl mok_Arrays_fill (by decide) (c_fill_NOB M1 c 1073741823) ?_
      rintro r47 M47 ⟨rfl, z47, f47⟩
      refine oRun_ok 4 rfl ?_
      refine turns (cD N) 0 M47 0 _ _ (by omega) ⟨?_, ?_, ?_, ?_, ?_⟩ (hf.tr (f47.mono (fun k i q => Or.inr (Or.inr ⟨q.2, Or.inl q.1⟩))))
      · have : ∀ n, sCnt (tb 0) n = 0 := by
          intro n
          induction n with
          | zero => rfl
          | succ n ih =>
            rw [sCnt, ih, tb_0]
            rfl
        exact this _
      · intro s u _ _ a1
        rw [tb_0] at a1
        cases a1
      · intro e he
        rw [f47 K_RNK c (by rintro ⟨q, -⟩; exact absurd q (by decide))]
        exact hr e he
      · intro y hy x
        rw [z47 y hy, show (1073741823 : Int32) = ((1 : Int32) <<< (nI 30 &&& 31)) - 1 from by decide +kernel, tb_mask (by decide), decide_eq_true_eq]
        exact ⟨fun a => ⟨a, fun e _ q => by rw [tb_0] at q; cases q⟩, fun a => a.1⟩
      · intro e he y hy x
        rw [f47 K_HROW (4 * c + e) (by rintro ⟨q, -⟩; exact absurd q (by decide)), hb e he y hy x, Bool.and_eq_true, decide_eq_true_eq]
        exact ⟨fun a => ⟨a.1, a.2, fun q => by rw [tb_0] at q; cases q⟩, fun a => ⟨a.1, a.2.1⟩⟩
    | succ q ih =>
      intro d M1 hd hr hb hf
      have L1 := oRL_kp (hf.kp (oOs_kp w c)) hL
      refine oRun_ok 2 rfl ?_
      refine g_ic_ge rfl (fun h => ?_) (fun _ => ?_)
      · rw [nIle (by omega) (by omega)] at h
        omega
      refine oRun_ok 3 rfl ?_
      refine g_callV rfl rfl rfl rfl rfl mok_Cells_fillDeed (by decide) (c_Cells_fillDeed M1 N c w d hN L1 (by omega)) ?_
      rintro r18 M18 ⟨rfl, b18, f18⟩
      have F18 : oFr (oOs w c) M M18 := hf.tr (f18.mono (fun k i q => by
        rcases q with q | ⟨rfl, rfl⟩
        · exact Or.inl q
        · exact Or.inr (Or.inl ⟨rfl, by omega, by omega⟩)))
      have L18 := oRL_kp (F18.kp (oOs_kp w c)) hL
      refine oRun_ok 6 rfl ?_
      refine g_callV rfl rfl rfl rfl rfl mok_Land_rankOf (by decide) (c_Land_rankOf M18 N w d hN L18 (by omega)) ?_
      rintro r31 M31 ⟨rfl, f31⟩
      refine g_iast d rfl rfl rfl (by omega) ?_
      refine oRun_ok 2 rfl ?_
      rw [nI_1]
      have q31 : ∀ k, ¬ k = K_LSTK → ∀ i, M31 k i = M18 k i := fun k hk i => f31 k i (fun z => hk z)
      have q18 : ∀ i, M18 K_RNK i = M1 K_RNK i := fun i => f18 K_RNK i (by
        rintro ((q | ⟨-, q | q | q⟩) | ⟨q, -⟩) <;> exact absurd q (by decide))
      refine ih (d + 1) _ (by omega) (fun e he => ?_) (fun e he y hy x => ?_) ((F18.tr (f31.mono (fun k i q => Or.inl (Or.inl q)))).up (Or.inr (Or.inr ⟨rfl, Or.inr rfl⟩)))
      · by_cases z : e = d
        · subst z
          exact oUp_self
        · refine (oUp_j z).trans ?_
          rw [q31 K_RNK (by decide), q18]
          exact hr e (by omega)
      · rw [oUp_k (by decide), q31 K_HROW (by decide)]
        by_cases z : e = d
        · subst z
          exact b18 y hy x
        · rw [f18 K_HROW (4 * c + e) (by
            rintro ((q | ⟨-, q | q | q⟩) | ⟨-, q⟩)
            · exact absurd q (by decide)
            · exact absurd q (by decide)
            · exact absurd q (by decide)
            · exact absurd q (by decide)
            · omega)]
          exact hb e (by omega) y hy x
  exact fills (cD N) 0 M (by omega) (fun e h => absurd h (by omega)) (fun e h => absurd h (by omega)) oFr.rf
