/-! ## the model's reading, step by step -/
def trC (key : Nat) (c : Int32) : Int32 := (oTr (nI key) c).getD 0
def stp (r : Nat) (x : Int32) : Bool := decide (¬ x = -11 ∧ nI r ≤ f_Mod_rank x)
theorem rk_6 (x : Int32) : f_Mod_rank x = 1 ∨ f_Mod_rank x = 2 ∨ f_Mod_rank x = 3 ∨ f_Mod_rank x = 4 ∨ f_Mod_rank x = 5 ∨ f_Mod_rank x = 6 := by
  unfold f_Mod_rank
  split
  · exact Or.inl rfl
  split
  · exact Or.inr (Or.inl rfl)
  split
  · split
    · split
      · exact Or.inr (Or.inr (Or.inr (Or.inr (Or.inr rfl))))
      · exact Or.inr (Or.inr (Or.inr (Or.inr (Or.inl rfl))))
    · exact Or.inr (Or.inr (Or.inr (Or.inl rfl)))
  · exact Or.inr (Or.inr (Or.inl rfl))
theorem stp_mono {r r' : Nat} {x : Int32} (hr : r' < 100) (h : r ≤ r') (hs : stp r' x = true) : stp r x = true := by
  have hs := of_decide_eq_true hs
  exact decide_eq_true ⟨hs.1, Int32.le_trans ((nIle (by omega) (by omega)).mpr h) hs.2⟩
/-- numbers of nots that wait -/
def nO (S : List Int32) : Nat := S.countP (fun x => decide (x = -10))
theorem nO_cons {x : Int32} {S : List Int32} (h : ¬ x = -10) : nO (x :: S) = nO S := by
  unfold nO
  rw [List.countP_cons, decide_eq_false h]
  rfl
theorem nO_not {S : List Int32} : nO (-10 :: S) = nO S + 1 := by
  unfold nO
  rw [List.countP_cons]
  rfl
theorem nO_app {K S : List Int32} (h : ∀ x ∈ K, ¬ x = -10) : nO (K ++ S) = nO S := by
  induction K with
  | nil => rfl
  | cons a K ih =>
    rw [List.cons_append, nO_cons (h a List.mem_cons_self)]
    exact ih (fun x hx => h x (List.mem_cons_of_mem _ hx))
/-- the code of the sign at a token -/
def opC (f : Nat → Int32) (key : Nat) (t : Tk) : Int32 := trC key (-(f t.2.1))
theorem op_ok {f : Nat → Int32} {key lev : Nat} {t : Tk} (hl : lev < 5) (h : jn f lev t = true) : ¬ opC f key t = -10 ∧ ¬ opC f key t = -11 ∧ stp (lev + 1) (opC f key t) = true ∧ stp (lev + 2) (opC f key t) = false := by
  have s : ∀ c, sgn f t c = true → f t.2.1 = c := fun c hc => (of_decide_eq_true hc).2
  unfold opC
  match lev, hl with
  | 0, _ => rw [s _ h, show trC key (-124) = -1 from rfl]; decide
  | 1, _ => rw [s _ h, show trC key (-38) = -2 from rfl]; decide
  | 2, _ =>
    have h : (sgn f t 60 || (sgn f t 61 || sgn f t 62)) = true := h
    rw [Bool.or_eq_true, Bool.or_eq_true] at h
    rcases h with h | h | h
    · rw [s _ h, show trC key (-60) = -3 from rfl]; decide
    · rw [s _ h, show trC key (-61) = -4 from rfl]; decide
    · rw [s _ h, show trC key (-62) = -5 from rfl]; decide
  | 3, _ =>
    have h : (sgn f t 43 || sgn f t 45) = true := h
    rw [Bool.or_eq_true] at h
    rcases h with h | h
    · rw [s _ h, show trC key (-43) = -6 from rfl]; decide
    · rw [s _ h, show trC key (-45) = -7 from rfl]; decide
  | 4, _ =>
    have h : (sgn f t 42 || sgn f t 47) = true := h
    rw [Bool.or_eq_true] at h
    rcases h with h | h
    · rw [s _ h, show trC key (-42) = -8 from rfl]; decide
    · rw [s _ h, show trC key (-47) = -9 from rfl]; decide
def bnd (lev : Nat) (S : List Int32) : Prop := ∀ x, S.head? = some x → stp (lev + 1) x = false
theorem bnd_mono {lev : Nat} {S : List Int32} (hl : lev < 50) (h : bnd lev S) : bnd (lev + 1) S := fun x hx => by
  rw [Bool.eq_false_iff]
  intro z
  have := h x hx
  rw [stp_mono (by omega) (by omega) z] at this
  cases this
theorem tw_b {r : Nat} {K S : List Int32} (hK : ∀ x ∈ K, stp (r + 1) x = true) (hb : bnd r S) : (K ++ S).takeWhile (stp (r + 1)) = K ∧ (K ++ S).dropWhile (stp (r + 1)) = S := by
  have e : S.takeWhile (stp (r + 1)) = [] ∧ S.dropWhile (stp (r + 1)) = S := by
    cases S with
    | nil => exact ⟨rfl, rfl⟩
    | cons a S =>
      have := hb a rfl
      exact ⟨List.takeWhile_cons_of_neg (by rw [this]; decide), List.dropWhile_cons_of_neg (by rw [this]; decide)⟩
  rw [List.takeWhile_append_of_pos hK, List.dropWhile_append_of_pos hK, e.1, e.2, List.append_nil]
  exact ⟨rfl, rfl⟩
def upT (T : Nat → Bool) (p : Nat) (b : Bool) : Nat → Bool := fun j => if j = p then b else T j
abbrev oPT : Type := Bool → Tk → Nat → List Int32 → List Int32 → (Nat → Bool) → Nat → Prop
/-- P is kept by the steps of the model's reading -/
def oKept (f : Nat → Int32) (n key : Nat) (F : Tk → Prop) (P : oPT) : Prop :=
  (∀ t p C S T A, sgn f t 33 = true → nO S < 8 → P true (nxT f n t) p C (-10 :: S) T A → P true t p C S T A) ∧
  (∀ t p C S T A, sgn f t 40 = true → p < 8 → P true (nxT f n t) (p + 1) C (-11 :: S) (upT T (p + 1) false) A → P true t p C S T A) ∧
  (∀ t p C S T A c, (t.1 = 2 ∧ c = sNum f t.2.1 (t.2.2 - t.2.1) ∨ isNm f key t ∧ c = -(f t.2.1)) → P false (nxT f n t) p (C ++ [trC key c] ++ S.takeWhile (stp 6)) (S.dropWhile (stp 6)) T (A + 1) → P true t p C S T A) ∧
  (∀ t p C S T A, ¬ (sgn f t 33 = true ∧ nO S < 8) → ¬ (sgn f t 40 = true ∧ p < 8) → ¬ t.1 = 2 → ¬ isNm f key t → F t → P true t p C S T A) ∧
  (∀ t p C K S T A, sgn f t 41 = true → (∀ x ∈ K, stp 0 x = true) → P false (nxT f n t) p (C ++ K ++ S.takeWhile (stp 6)) (S.dropWhile (stp 6)) T A → P false t (p + 1) C (K ++ -11 :: S) T A) ∧
  (∀ lev t p C K S T A, lev < 5 → jn f lev t = true → ¬ (lev = 2 ∧ T p = true) → (∀ x ∈ K, ¬ x = -10 ∧ stp (lev + 1) x = true) → bnd lev S → P true (nxT f n t) p (C ++ K) (opC f key t :: S) (upT T p (decide (lev = 2) || decide (2 < lev) && T p)) A → P false t p C (K ++ S) T A) ∧
  (∀ t p C S T A, ¬ t.1 = 0 → ¬ (sgn f t 41 = true ∧ 0 < p) → (∀ l, l < 5 → jn f l t = false ∨ (l = 2 ∧ T p = true)) → F t → P false t p C S T A) ∧
  (∀ t p C S T A, t.1 = 0 → 0 < p → F t → P false t p C S T A)

