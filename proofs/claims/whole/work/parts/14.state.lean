/-! ===== the state: N is the reference's row 'now' (or 'image'); the class's land holds the same ===== -/
def inR (v : Int32) (a b : Int) : Prop := a ≤ v.toInt ∧ v.toInt ≤ b
def cS (N : Nat → Int32) : Nat := (N 1).toNatClampNeg
def cD (N : Nat → Int32) : Nat := (N 2).toNatClampNeg
def cT (N : Nat → Int32) : Nat := (N 3).toNatClampNeg
def cC (N : Nat → Int32) (d : Nat) : Nat := (N (20 + 35 * d + 4)).toNatClampNeg
def oDOk (N : Nat → Int32) (d : Nat) : Prop := inR (N (20 + 35 * d)) 0 29 ∧ inR (N (20 + 35 * d + 1)) 0 29 ∧ inR (N (20 + 35 * d + 2)) 0 999 ∧ inR (N (20 + 35 * d + 3)) (-9) 9 ∧ inR (N (20 + 35 * d + 4)) 0 10 ∧ ∀ j, j < cC N d → inR (N (20 + 35 * d + 5 + 3 * j)) 0 5 ∧ inR (N (20 + 35 * d + 5 + 3 * j + 1)) 0 7 ∧ inR (N (20 + 35 * d + 5 + 3 * j + 2)) 1 20
/-- how many numbers wait on the stack behind k codes; none: a code that finds too few -/
def oDp (c : Nat → Int32) : Nat → Option Nat
  | 0 => some 0
  | k + 1 => match oDp c k with
    | none => none
    | some h => if 0 ≤ c k then some (h + 1) else if c k = -10 then (if 1 ≤ h then some h else none) else if 2 ≤ h then some (h - 1) else none
/-- the codes of a text, as the reference has them, may be worked out -/
def oWf (c : Nat → Int32) (n : Nat) (key : Int32) : Prop := oDp c n = some 1 ∧ ∀ k, k < n → inR (c k) (-10) (10000 + key.toInt)
def tK (N : Nat → Int32) (t : Nat) : Int32 := N (160 + 2 * t) / 1000
def tN (N : Nat → Int32) (t : Nat) : Nat := (oRem (N (160 + 2 * t)) 1000).toNatClampNeg
def oTOk (N : Nat → Int32) (t : Nat) : Prop := inR (N (160 + 2 * t)) 0 2999 ∧ tN N t ≤ 96 ∧ oWf (fun k => N (188 + 96 * t + k)) (tN N t) (tK N t)
def oNOk (N : Nat → Int32) : Prop := inR (N 1) 0 8 ∧ inR (N 2) 0 4 ∧ inR (N 3) 0 14 ∧ (∀ i, i < cS N → inR (N (4 + 2 * i)) (-99) 99 ∧ inR (N (4 + 2 * i + 1)) (-99) 99) ∧ (∀ d, d < cD N → oDOk N d) ∧ ∀ t, t < cT N → oTOk N t
/-- the class's code of a text, as the reference has it, under a key -/
def oTr (key c : Int32) : Option Int32 :=
  if 0 ≤ c then (if c ≤ 9999 then some c else none)
  else if c = -121 then some 10000
  else if c = -115 then (if key = 1 then some 10001 else none)
  else if c = -110 then (if key = 2 then some 10001 else none)
  else if c = -99 then (if key = 2 then some 10002 else none)
  else if c = -124 then some (-1) else if c = -38 then some (-2) else if c = -60 then some (-3) else if c = -61 then some (-4) else if c = -62 then some (-5) else if c = -43 then some (-6) else if c = -45 then some (-7) else if c = -42 then some (-8) else if c = -47 then some (-9) else if c = -33 then some (-10) else none
def oRT (M : oM) (N : Nat → Int32) (t : Nat) : Prop := M K_TEXT t 0 = tK N t ∧ M K_TEXT t 1 = N (160 + 2 * t + 1) ∧ M K_TEXT t 2 = nI (tN N t) ∧ ∀ k, k < tN N t → oTr (tK N t) (M K_TCOD t k) = some (N (188 + 96 * t + k))
def oRD (M : oM) (N : Nat → Int32) (i d : Nat) : Prop := (∀ w, w < 5 → M K_DEED i w = N (20 + 35 * d + w)) ∧ ∀ j, j < cC N d → M K_DK i j = N (20 + 35 * d + 5 + 3 * j) ∧ M K_DW i j = N (20 + 35 * d + 5 + 3 * j + 1) ∧ M K_DL i j = N (20 + 35 * d + 5 + 3 * j + 2)
def oRL (M : oM) (N : Nat → Int32) (l : Nat) : Prop := M K_LAND l 1 = N 1 ∧ M K_LAND l 4 = N 2 ∧ M K_LAND l 6 = N 3 ∧ M K_LAND l 7 = N 0 ∧ (∀ i, i < cS N → M K_STX l i = N (4 + 2 * i) ∧ M K_STY l i = N (4 + 2 * i + 1)) ∧ (∀ d, d < cD N → oRD M N (4 * l + d) d) ∧ ∀ t, t < cT N → oRT M N t
-- what a method may write
def oFr (S : Nat → Nat → Prop) (M M' : oM) : Prop := ∀ k i, ¬ S k i → M' k i = M k i
theorem oFr.rf {S : Nat → Nat → Prop} {M : oM} : oFr S M M := fun _ _ _ => rfl
theorem oFr.tr {S : Nat → Nat → Prop} {M M1 M2 : oM} (h1 : oFr S M M1) (h2 : oFr S M1 M2) : oFr S M M2 := fun k i h => (h2 k i h).trans (h1 k i h)
theorem oFr.mono {S T : Nat → Nat → Prop} {M M1 : oM} (h1 : oFr S M M1) (h : ∀ k i, S k i → T k i) : oFr T M M1 := fun k i hn => h1 k i (fun q => hn (h k i q))
theorem oFr.up {S : Nat → Nat → Prop} {M M1 : oM} {k i j : Nat} {v : Int32} (h1 : oFr S M M1) (h : S k i) : oFr S M (oUp M1 k i j v) := fun k' i' hn => by
  rw [oUp_ne (fun q => hn (by rw [q.1, q.2]; exact h))]
  exact h1 k' i' hn
theorem oUp_self {M : oM} {k i j : Nat} {v : Int32} : oUp M k i j v k i j = v := by
  rw [oUp_at]
  exact if_pos rfl
theorem oUp_j {M : oM} {k i j j' : Nat} {v : Int32} (h : ¬ j' = j) : oUp M k i j v k i j' = M k i j' := by
  rw [oUp_at]
  exact if_neg h
theorem oUp_i {M : oM} {k i j i' : Nat} {v : Int32} (h : ¬ i' = i) : oUp M k i j v k i' = M k i' := oUp_ne (fun q => h q.2)
theorem oUp_k {M : oM} {k i j k' : Nat} {v : Int32} (h : ¬ k' = k) : oUp M k i j v k' = M k' := by
  unfold oUp
  rw [if_neg h]
theorem inR_nI {v : Int32} {n : Nat} (h : inR v 0 n) (hn : n < 2147483648) : v = nI v.toNatClampNeg ∧ v.toNatClampNeg ≤ n := by
  have h1 := nI_ofInt h.1
  have h2 : v.toNatClampNeg = v.toInt.toNat := rfl
  exact ⟨h1, by have := h.2; omega⟩
theorem oNS {N : Nat → Int32} (h : oNOk N) : N 1 = nI (cS N) ∧ cS N ≤ 8 := inR_nI h.1 (by decide)
theorem oND {N : Nat → Int32} (h : oNOk N) : N 2 = nI (cD N) ∧ cD N ≤ 4 := inR_nI h.2.1 (by decide)
theorem oNT {N : Nat → Int32} (h : oNOk N) : N 3 = nI (cT N) ∧ cT N ≤ 14 := inR_nI h.2.2.1 (by decide)
theorem oNC {N : Nat → Int32} {d : Nat} (h : oDOk N d) : N (20 + 35 * d + 4) = nI (cC N d) ∧ cC N d ≤ 10 := inR_nI h.2.2.2.2.1 (by decide)
-- yes and no
theorem wi_1 {v a b : Int32} : f_Oak_isWithin v a b = 1 ↔ a ≤ v ∧ v ≤ b := by
  unfold f_Oak_isWithin
  split
  · rename_i h
    simp
    intro h2
    exact absurd (Int32.lt_of_le_of_lt h2 h) (Int32.lt_irrefl)
  · rename_i h
    split
    · rename_i h2
      simp
      intro _
      exact h2
    · rename_i h2
      simp
      exact ⟨Int32.not_lt.mp h, Int32.not_lt.mp h2⟩
theorem wi_01 (v a b : Int32) : f_Oak_isWithin v a b = 0 ∨ f_Oak_isWithin v a b = 1 := by
  unfold f_Oak_isWithin
  split
  · exact Or.inl rfl
  · split
    · exact Or.inl rfl
    · exact Or.inr rfl
theorem wi_0 {v a b : Int32} : f_Oak_isWithin v a b = 0 ↔ ¬ (a ≤ v ∧ v ≤ b) := by
  rw [← wi_1]
  rcases wi_01 v a b with h | h <;> rw [h] <;> decide
theorem in_eq (v a b : Int32) : f_Mod_in v a b = f_Oak_isWithin v a b := rfl
theorem wiN {n m : Nat} (hn : n < 2147483648) (hm : m < 2147483648) : f_Oak_isWithin (nI n) 0 (nI m - 1) = 0 ↔ ¬ n < m := by
  rw [wi_0]
  have h0 : (0 : Int32) ≤ nI n := nI_pos' hn
  cases m with
  | zero =>
    refine ⟨fun _ => by omega, fun _ h => ?_⟩
    have := iLe.mp h.2
    rw [nIt hn, show (nI 0 - 1 : Int32).toInt = -1 from rfl] at this
    omega
  | succ m =>
    rw [nI_pred, nIle hn (by omega)]
    constructor
    · intro h q
      exact h ⟨h0, by omega⟩
    · intro h q
      omega
/-- a number within 0 and m - 1: which -/
theorem wiI {v : Int32} {m : Nat} (hm : m < 2147483648) (h : ¬ f_Oak_isWithin v 0 (nI m - 1) = 0) : ∃ n, n < m ∧ v = nI n := by
  have h1 : f_Oak_isWithin v 0 (nI m - 1) = 1 := (wi_01 _ _ _).resolve_left h
  obtain ⟨a, b⟩ := wi_1.mp h1
  have ha : 0 ≤ v.toInt := iLe.mp a
  have e := nI_ofInt ha
  refine ⟨v.toInt.toNat, ?_, e⟩
  rw [e, wiN (by have := iRng v; omega) hm] at h
  exact Decidable.not_not.mp h
theorem wiR {v : Int32} {a b : Int32} (h : ¬ f_Oak_isWithin v a b = 0) : inR v a.toInt b.toInt := by
  have h1 : f_Oak_isWithin v a b = 1 := (wi_01 _ _ _).resolve_left h
  obtain ⟨x, y⟩ := wi_1.mp h1
  exact ⟨iLe.mp x, iLe.mp y⟩
-- texts, worked out: the stack behind k codes, by its height and its places
def oEv (g c : Nat → Int32) : Nat → Nat × (Nat → Int32)
  | 0 => (0, fun _ => 0)
  | k + 1 => if 0 ≤ c k then ((oEv g c k).1 + 1, upd (oEv g c k).2 (oEv g c k).1 (if c k < 10000 then c k else g (c k - 10000).toNatClampNeg))
    else if c k = -10 then ((oEv g c k).1, upd (oEv g c k).2 ((oEv g c k).1 - 1) (if (oEv g c k).2 ((oEv g c k).1 - 1) = 0 then 1 else 0))
    else ((oEv g c k).1 - 1, upd (oEv g c k).2 ((oEv g c k).1 - 2) (f_Mod_two (c k) ((oEv g c k).2 ((oEv g c k).1 - 2)) ((oEv g c k).2 ((oEv g c k).1 - 1))))
theorem oDp_back {c : Nat → Int32} : ∀ {n k : Nat} {h : Nat}, oDp c n = some h → k ≤ n → ∃ h', oDp c k = some h'
  | 0, k, h, hd, hk => ⟨h, by rw [show k = 0 by omega]; exact hd⟩
  | n + 1, k, h, hd, hk => by
    by_cases e : k = n + 1
    · exact ⟨h, by rw [e]; exact hd⟩
    · unfold oDp at hd
      cases hz : oDp c n with
      | none => rw [hz] at hd; cases hd
      | some h1 => exact oDp_back hz (by omega)
theorem oDp_h (g : Nat → Int32) {c : Nat → Int32} : ∀ (k h : Nat), oDp c k = some h → (oEv g c k).1 = h ∧ h ≤ k
  | 0, h, hd => by
    cases hd
    exact ⟨rfl, Nat.le_refl _⟩
  | k + 1, h, hd => by
    unfold oDp at hd
    cases hz : oDp c k with
    | none => rw [hz] at hd; cases hd
    | some h1 =>
      rw [hz] at hd
      obtain ⟨a, b⟩ := oDp_h g k h1 hz
      simp only at hd
      unfold oEv
      by_cases c1 : 0 ≤ c k
      · rw [if_pos c1] at hd ⊢
        cases hd
        exact ⟨by simp only [a], by omega⟩
      · rw [if_neg c1] at hd ⊢
        by_cases c2 : c k = -10
        · rw [if_pos c2] at hd ⊢
          by_cases c3 : 1 ≤ h1
          · rw [if_pos c3] at hd
            cases hd
            exact ⟨a, by omega⟩
          · rw [if_neg c3] at hd
            cases hd
        · rw [if_neg c2] at hd ⊢
          by_cases c3 : 2 ≤ h1
          · rw [if_pos c3] at hd
            cases hd
            exact ⟨by simp only [a], by omega⟩
          · rw [if_neg c3] at hd
            cases hd
def tC (N : Nat → Int32) (t : Nat) : Nat → Int32 := fun k => N (188 + 96 * t + k)
def oVal (g N : Nat → Int32) (t : Nat) : Int32 := (oEv g (tC N t) (tN N t)).2 0
/-- the last text below t that has a key -/
def oLast (N : Nat → Int32) (key : Int32) : Nat → Option Nat
  | 0 => none
  | t + 1 => if tK N t = key then some t else oLast N key t
theorem oLast_lt {N : Nat → Int32} {key : Int32} : ∀ {n t : Nat}, oLast N key n = some t → t < n ∧ tK N t = key
  | 0, t, h => by cases h
  | n + 1, t, h => by
    unfold oLast at h
    by_cases e : tK N n = key
    · rw [if_pos e] at h
      cases h
      exact ⟨by omega, e⟩
    · rw [if_neg e] at h
      have := oLast_lt h
      exact ⟨by omega, this.2⟩
def gN (N : Nat → Int32) (d : Nat) : Nat → Int32 := fun _ => N (20 + 35 * d + 2)
def gC (N : Nat → Int32) (d : Nat) : Nat → Int32 := fun j => if j = 0 then N (20 + 35 * d + 2) else N (20 + 35 * d + 3)
def gF (N : Nat → Int32) (d : Nat) : Nat → Int32 := fun j => if j = 0 then N (20 + 35 * d + 2) else if j = 1 then nI d else N (20 + 35 * d + 4)
def sNd (N : Nat → Int32) (d : Nat) : Int32 := match oLast N 0 (cT N) with
  | none => 0
  | some t => oRem (oRem (oVal (gN N d) N t) 8 + 8) 8
def sCh (N : Nat → Int32) (d : Nat) : Int32 := match oLast N 1 (cT N) with
  | none => N (20 + 35 * d + 3)
  | some t => f_Mod_within (oVal (gC N d) N t) (-9) 9
def sRk (N : Nat → Int32) (d : Nat) : Int32 := match oLast N 2 (cT N) with
  | none => N (20 + 35 * d + 2)
  | some t => oVal (gF N d) N t
/-- the facts that a text under a key may name -/
theorem oEv_congr {g g' c : Nat → Int32} {key : Nat} : ∀ (n : Nat), (∀ k, k < n → inR (c k) (-10) (10000 + key)) → (∀ j, j ≤ key → g j = g' j) → oEv g c n = oEv g' c n
  | 0, _, _ => rfl
  | n + 1, hc, hg => by
    have ih := oEv_congr n (fun k hk => hc k (by omega)) hg
    unfold oEv
    rw [ih]
    have hcn := hc n (by omega)
    by_cases c1 : 0 ≤ c n
    · rw [if_pos c1, if_pos c1]
      by_cases c2 : c n < 10000
      · rw [if_pos c2, if_pos c2]
      · rw [if_neg c2, if_neg c2]
        have h1 : 10000 ≤ (c n).toInt := by
          have := Int32.not_lt.mp c2
          exact iLe.mp this
        have h2 : (c n - 10000).toInt = (c n).toInt - 10000 := iSub (by have := iRng (c n); have e : (10000 : Int32).toInt = 10000 := rfl; rw [e]; omega)
        have h3 : (c n - 10000).toNatClampNeg ≤ key := by
          show (c n - 10000).toInt.toNat ≤ key
          have := hcn.2
          omega
        rw [hg _ h3]
    · rw [if_neg c1, if_neg c1]
