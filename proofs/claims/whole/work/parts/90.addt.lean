/-! ## a new text in the row -/
def addT (N : Nat → Int32) (t key : Nat) (L : List Int32) (a : Nat) : Nat → Int32 := fun j => if j = 3 then nI (t + 1) else if j = 160 + 2 * t then nI (1000 * key + L.length) else if j = 160 + 2 * t + 1 then nI a else if 188 + 96 * t ≤ j ∧ j < 188 + 96 * t + L.length then L.getD (j - (188 + 96 * t)) 0 else N j
theorem addT_no {N : Nat → Int32} {t key : Nat} {L : List Int32} {a j : Nat} (h1 : ¬ j = 3) (h2 : j < 160 + 2 * t ∨ 160 + 2 * t + 1 < j) (h3 : j < 188 + 96 * t ∨ 188 + 96 * t + L.length ≤ j) : addT N t key L a j = N j := (if_neg h1).trans ((if_neg (by omega)).trans ((if_neg (by omega)).trans (if_neg (by omega))))
theorem addT_3 {N : Nat → Int32} {t key : Nat} {L : List Int32} {a : Nat} : addT N t key L a 3 = nI (t + 1) := if_pos rfl
theorem addT_h {N : Nat → Int32} {t key : Nat} {L : List Int32} {a : Nat} : addT N t key L a (160 + 2 * t) = nI (1000 * key + L.length) := (if_neg (by omega)).trans (if_pos rfl)
theorem addT_a {N : Nat → Int32} {t key : Nat} {L : List Int32} {a : Nat} : addT N t key L a (160 + 2 * t + 1) = nI a := (if_neg (by omega)).trans ((if_neg (by omega)).trans (if_pos rfl))
theorem addT_c {N : Nat → Int32} {t key : Nat} {L : List Int32} {a k : Nat} (ht : t < 14) (hk : k < L.length) : addT N t key L a (188 + 96 * t + k) = L.getD k 0 := (if_neg (by omega)).trans ((if_neg (by omega)).trans ((if_neg (by omega)).trans ((if_pos (by omega)).trans (by rw [show 188 + 96 * t + k - (188 + 96 * t) = k by omega]))))
theorem addT_tk {N : Nat → Int32} {t key : Nat} {L : List Int32} {a : Nat} (hk : key < 3) (hL : L.length ≤ 96) : tK (addT N t key L a) t = nI key ∧ tN (addT N t key L a) t = L.length ∧ inR (addT N t key L a (160 + 2 * t)) 0 2999 := by
  have hx : (nI (1000 * key + L.length)).toInt = ((1000 * key + L.length : Nat) : Int) := nIt (by omega)
  refine ⟨?_, ?_, ?_⟩
  · unfold tK
    rw [addT_h, iEq, iDiv (Or.inl (by omega)), hx, nIt (by omega), show (1000 : Int32).toInt = 1000 from rfl]
    rw [Int.tdiv_eq_ediv_of_nonneg (by omega)]
    omega
  · unfold tN
    rw [addT_h]
    have : (oRem (nI (1000 * key + L.length)) 1000) = nI L.length := (nIrem (d := 1000) (by omega) (by decide) (by decide)).trans (by rw [show (1000 * key + L.length) % 1000 = L.length by omega])
    rw [this, nIc (by omega)]
  · rw [addT_h]
    unfold inR
    rw [hx]
    omega
/-- the codes that a text has are well formed -/
def lOk (key : Nat) (L : List Int32) : Prop := L.foldl dpF (some 0) = some 1 ∧ ∀ v ∈ L, inR v (-10) (10000 + key)
theorem addT_t {N : Nat → Int32} {t key : Nat} {L : List Int32} {a : Nat} (ht : t < 14) (hk : key < 3) (hL : L.length ≤ 96) (hl : lOk key L) : oTOk (addT N t key L a) t := by
  obtain ⟨e1, e2, e3⟩ := addT_tk (N := N) (t := t) (a := a) hk hL
  refine ⟨e3, by rw [e2]; exact hL, ?_⟩
  rw [e1, e2]
  refine ⟨?_, fun k hk' => ?_⟩
  · rw [oDp_list L (fun k => addT N t key L a (188 + 96 * t + k)) (fun k hk' => addT_c ht hk') L.length (Nat.le_refl _), List.take_length]
    exact hl.1
  · show inR (addT N t key L a (188 + 96 * t + k)) _ _
    rw [addT_c ht hk', nIt (by omega), List.getD_eq_getElem?_getD, List.getElem?_eq_getElem hk']
    exact hl.2 _ (List.getElem_mem hk')
theorem addT_ot {N : Nat → Int32} {t key u : Nat} {L : List Int32} {a : Nat} (hu : u < t) (ht : t < 14) (h : oTOk N u) : tK (addT N t key L a) u = tK N u ∧ tN (addT N t key L a) u = tN N u ∧ addT N t key L a (160 + 2 * u + 1) = N (160 + 2 * u + 1) ∧ ∀ k, k < tN N u → addT N t key L a (188 + 96 * u + k) = N (188 + 96 * u + k) := by
  have e : addT N t key L a (160 + 2 * u) = N (160 + 2 * u) := addT_no (by omega) (by omega) (by omega)
  have h2 := h.2.1
  refine ⟨by unfold tK; rw [e], by unfold tN; rw [e], addT_no (by omega) (by omega) (by omega), fun k hk => addT_no (by omega) (by omega) (by omega)⟩
theorem oDp_cg {c c' : Nat → Int32} : ∀ n, (∀ k, k < n → c' k = c k) → oDp c' n = oDp c n
  | 0, _ => rfl
  | n + 1, h => by
    rw [oDp_s, oDp_s, oDp_cg n (fun k hk => h k (by omega)), h n (by omega)]
theorem addT_ok {N : Nat → Int32} {key : Nat} {L : List Int32} {a : Nat} (hN : oNOk N) (ht : cT N < 14) (hk : key < 3) (hL : L.length ≤ 96) (hl : lOk key L) : oNOk (addT N (cT N) key L a) ∧ cT (addT N (cT N) key L a) = cT N + 1 ∧ cS (addT N (cT N) key L a) = cS N ∧ cD (addT N (cT N) key L a) = cD N := by
  generalize hT : cT N = t at *
  have e : ∀ j, j < 160 → ¬ j = 3 → addT N t key L a j = N j := fun j h1 h2 => addT_no h2 (by omega) (by omega)
  have eT : cT (addT N t key L a) = t + 1 := by
    unfold cT
    rw [addT_3, nIc (by omega)]
  have eS : cS (addT N t key L a) = cS N := by unfold cS; rw [e 1 (by decide) (by decide)]
  have eD : cD (addT N t key L a) = cD N := by unfold cD; rw [e 2 (by decide) (by decide)]
  have hS8 := (oNS hN).2
  have hD4 := (oND hN).2
  obtain ⟨n1, n2, n3, n4, n5, n6⟩ := hN
  refine ⟨⟨by rw [e 1 (by decide) (by decide)]; exact n1, by rw [e 2 (by decide) (by decide)]; exact n2, ?_, fun i hi => ?_, fun d hd => ?_, fun u hu => ?_⟩, eT, eS, eD⟩
  · rw [addT_3]
    unfold inR
    rw [nIt (by omega)]
    omega
  · rw [eS] at hi
    rw [e _ (by omega) (by omega), e _ (by omega) (by omega)]
    exact n4 i hi
  · rw [eD] at hd
    have q := n5 d hd
    have eC : cC (addT N t key L a) d = cC N d := by unfold cC; rw [e _ (by omega) (by omega)]
    have hC := (oNC q).2
    obtain ⟨q1, q2, q3, q4, q5, q6⟩ := q
    refine ⟨by rw [e _ (by omega) (by omega)]; exact q1, by rw [e _ (by omega) (by omega)]; exact q2, by rw [e _ (by omega) (by omega)]; exact q3, by rw [e _ (by omega) (by omega)]; exact q4, by rw [e _ (by omega) (by omega)]; exact q5, fun j hj => ?_⟩
    rw [eC] at hj
    rw [e _ (by omega) (by omega), e _ (by omega) (by omega), e _ (by omega) (by omega)]
    exact q6 j hj
  · rw [eT] at hu
    by_cases hut : u = t
    · rw [hut]
      exact addT_t ht hk hL hl
    · have hu' : u < t := by omega
      have q := n6 u (by omega)
      obtain ⟨e1, e2, e3, e4⟩ := addT_ot (key := key) (L := L) (a := a) hu' ht q
      obtain ⟨q1, q2, q3, q4⟩ := q
      refine ⟨by rw [addT_no (by omega) (by omega) (by omega)]; exact q1, by rw [e2]; exact q2, ?_⟩
      rw [e1, e2]
      exact ⟨(oDp_cg _ (fun k hk' => e4 k hk')).trans q3, fun k hk' => by show inR (addT N t key L a (188 + 96 * u + k)) _ _; rw [e4 k hk']; exact q4 k hk'⟩
def yTx (t : Nat) : Nat → Nat → Prop := fun k i => (k = K_READER ∨ k = K_RCOD) ∨ ((k = K_TEXT ∨ k = K_TCOD) ∧ i = t) ∨ (k = K_LAND ∧ i = 0)
/-- a land whose texts lie before t is untouched -/
theorem oRL_tx {M M' : oM} {N : Nat → Int32} {l t : Nat} (hF : oFr (yTx t) M M') (hL : M' K_LAND l = M K_LAND l) (ht : cT N ≤ t) (h : oRL M N l) : oRL M' N l := by
  obtain ⟨h1, h2, h3, h4, h5, h6, h7⟩ := h
  have e : ∀ k i, ¬ (k = K_READER ∨ k = K_RCOD ∨ k = K_TEXT ∨ k = K_TCOD ∨ k = K_LAND) → M' k i = M k i := fun k i hk => hF k i (fun z => hk (by
    rcases z with (z | z) | z | z
    · exact Or.inl z
    · exact Or.inr (Or.inl z)
    · rcases z.1 with z | z
      · exact Or.inr (Or.inr (Or.inl z))
      · exact Or.inr (Or.inr (Or.inr (Or.inl z)))
    · exact Or.inr (Or.inr (Or.inr (Or.inr z.1)))))
  have et : ∀ u, u < t → M' K_TEXT u = M K_TEXT u ∧ M' K_TCOD u = M K_TCOD u := fun u hu => ⟨hF _ _ (fun z => by
    rcases z with (z | z) | z | z
    · exact absurd z (by decide)
    · exact absurd z (by decide)
    · exact absurd z.2 (by omega)
    · exact absurd z.1 (by decide)), hF _ _ (fun z => by
    rcases z with (z | z) | z | z
    · exact absurd z (by decide)
    · exact absurd z (by decide)
    · exact absurd z.2 (by omega)
    · exact absurd z.1 (by decide))⟩
  refine ⟨by rw [hL]; exact h1, by rw [hL]; exact h2, by rw [hL]; exact h3, by rw [hL]; exact h4, fun i hi => ?_, fun d hd => ?_, fun u hu => ?_⟩
  · rw [e K_STX l (by decide), e K_STY l (by decide)]
    exact h5 i hi
  · unfold oRD
    rw [e K_DEED _ (by decide), e K_DK _ (by decide), e K_DW _ (by decide), e K_DL _ (by decide)]
    exact h6 d hd
  · unfold oRT
    rw [(et u (by omega)).1, (et u (by omega)).2]
    exact h7 u hu

