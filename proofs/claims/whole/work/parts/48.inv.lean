/-! ===== the whole state: the class's cells in C, the model's in D ===== -/
def oMk : List Nat := [K_M_now, K_M_image, K_M_tape, K_M_keys, K_M_keyAt, K_M_sorts, K_M_sizes, K_M_cells, K_M_holdsWhat, K_M_holdsA, K_M_holdsB, K_M_heldCells, K_M_tells]
/-- what lasts of the model is the same -/
def oPs (D D' : oM) : Prop := (∀ k ∈ oMk, D' k 0 = D k 0) ∧ D' K_MOD 0 3 = D K_MOD 0 3 ∧ D' K_MOD 0 14 = D K_MOD 0 14 ∧ D' K_MOD 0 40 = D K_MOD 0 40
theorem oPs.rf {D : oM} : oPs D D := ⟨fun _ _ => rfl, rfl, rfl, rfl⟩
theorem oPs.tr {D D1 D2 : oM} (h1 : oPs D D1) (h2 : oPs D1 D2) : oPs D D2 := ⟨fun k hk => (h2.1 k hk).trans (h1.1 k hk), h2.2.1.trans h1.2.1, h2.2.2.1.trans h1.2.2.1, h2.2.2.2.trans h1.2.2.2⟩
theorem oPs.symm {D D1 : oM} (h1 : oPs D D1) : oPs D1 D := ⟨fun k hk => (h1.1 k hk).symm, h1.2.1.symm, h1.2.2.1.symm, h1.2.2.2.symm⟩
def oCls : Nat → Nat → Prop := fun k _ => k < 31
def oMdl : Nat → Nat → Prop := fun k _ => 31 ≤ k ∧ k < 60
def oCk : List Nat := [K_LAND, K_STX, K_STY, K_DEED, K_DK, K_DW, K_DL, K_TEXT, K_TCOD, K_RBYT, K_ROW, K_RPL, K_SLOT, K_WAIT]
/-- what lasts of the class is the same -/
def oSm (C C' : oM) : Prop := (∀ k ∈ oCk, ∀ i, C' k i = C k i) ∧ C' K_OAK 0 2 = C K_OAK 0 2 ∧ C' K_OAK 0 12 = C K_OAK 0 12 ∧ C' K_READER 0 1 = C K_READER 0 1
theorem oSm.rf {D : oM} : oSm D D := ⟨fun _ _ _ => rfl, rfl, rfl, rfl⟩
theorem oCk_rl : ∀ k ∈ oRLk, k ∈ oCk := by decide
theorem oSm.kp {C C' : oM} (h : oSm C C') : oKp C C' := fun k hk i => h.1 k (oCk_rl k hk) i
def I_land (C D : oM) : Prop := oNOk (D K_M_now 0) ∧ oRL C (D K_M_now 0) 0
def I_img (C D : oM) : Prop := D K_MOD 0 3 = C K_OAK 0 2 ∧ (C K_OAK 0 2 = 0 ∨ C K_OAK 0 2 = 1 ∧ oNOk (D K_M_image 0) ∧ oRL C (D K_M_image 0) 1 ∧ cT (D K_M_image 0) ≤ cT (D K_M_now 0))
def I_tape (C D : oM) : Prop := ∃ n, n ≤ 96 ∧ C K_READER 0 1 = nI n ∧ D K_MOD 0 14 = nI n ∧ ∀ j, j < n → C K_RBYT 0 j = D K_M_tape 0 j ∧ inR (D K_M_tape 0 j) 0 255
def I_sheet (C D : oM) : Prop := ∀ s, s < 4 → C K_ROW s 0 = D K_M_sorts 0 s ∧ C K_ROW s 1 = D K_M_sizes 0 s ∧ inR (D K_M_sorts 0 s) (-1) 1 ∧ inR (D K_M_sizes 0 s) 0 24 ∧ ∀ k, k < 24 → C K_RPL s k = D K_M_cells 0 (24 * s + k)
def I_slot (C D : oM) : Prop := ∀ i, i < 5 → C K_SLOT i 0 = D K_M_holdsWhat 0 i ∧ inR (D K_M_holdsWhat 0 i) 0 3 ∧ (D K_M_holdsWhat 0 i = 1 → C K_SLOT i 1 = D K_M_holdsA 0 i ∧ inR (D K_M_holdsA 0 i) 0 5 ∧ D K_M_holdsB 0 i = f_Oak_worthOf (C K_SLOT i 1) (C K_SLOT i 2) (C K_SLOT i 3)) ∧ (D K_M_holdsWhat 0 i = 2 → C K_ROW (i + 4) 1 = D K_M_holdsA 0 i ∧ inR (D K_M_holdsA 0 i) 0 24 ∧ ∀ k, k < 24 → C K_RPL (i + 4) k = D K_M_heldCells 0 (24 * i + k)) ∧ (D K_M_holdsWhat 0 i = 3 → C K_SLOT i 4 = D K_M_holdsA 0 i)
def I_wait (C D : oM) : Prop := ∃ n, n ≤ 60 ∧ C K_OAK 0 12 = nI n ∧ D K_MOD 0 40 = nI n ∧ ∀ j, j < n → C K_WAIT 0 j = D K_M_tells 0 j
def oKeys : List Int32 := [110, 101, 101, 100, 108, 101, 99, 104, 97, 105, 110, 102, 105, 114, 115, 116]
def I_con (D : oM) : Prop := (∀ j, j < 16 → D K_M_keys 0 j = oKeys.getD j 0) ∧ D K_M_keyAt 0 0 = 0 ∧ D K_M_keyAt 0 1 = 6 ∧ D K_M_keyAt 0 2 = 11 ∧ D K_M_keyAt 0 3 = 16
def oI (C D : oM) : Prop := I_land C D ∧ I_img C D ∧ I_tape C D ∧ I_sheet C D ∧ I_slot C D ∧ I_wait C D ∧ I_con D
theorem oI.ok {C D : oM} (h : oI C D) : oNOk (D K_M_now 0) := h.1.1
theorem oI.rl {C D : oM} (h : oI C D) : oRL C (D K_M_now 0) 0 := h.1.2
theorem oI.img {C D : oM} (h : oI C D) : I_img C D := h.2.1
theorem oI.tape {C D : oM} (h : oI C D) : I_tape C D := h.2.2.1
theorem oI.sheet {C D : oM} (h : oI C D) : I_sheet C D := h.2.2.2.1
theorem oI.slot {C D : oM} (h : oI C D) : I_slot C D := h.2.2.2.2.1
theorem oI.wait {C D : oM} (h : oI C D) : I_wait C D := h.2.2.2.2.2.1
theorem oI.con {C D : oM} (h : oI C D) : I_con D := h.2.2.2.2.2.2
theorem oI.cls {C C' D : oM} (hI : oI C D) (h : oSm C C') : oI C' D := by
  obtain ⟨h1, h2, h3, h4, h5, h6, h7⟩ := hI
  have e := h.1
  refine ⟨⟨h1.1, oRL_kp h.kp h1.2⟩, ?_, ?_, ?_, ?_, ?_, h7⟩
  · unfold I_img at h2 ⊢
    rw [h.2.1]
    exact ⟨h2.1, h2.2.imp id (fun q => ⟨q.1, q.2.1, oRL_kp h.kp q.2.2.1, q.2.2.2⟩)⟩
  · unfold I_tape at h3 ⊢
    rw [h.2.2.2, e K_RBYT (by decide)]
    exact h3
  · unfold I_sheet at h4 ⊢
    simp only [e K_ROW (by decide), e K_RPL (by decide)]
    exact h4
  · unfold I_slot at h5 ⊢
    simp only [e K_ROW (by decide), e K_RPL (by decide), e K_SLOT (by decide)]
    exact h5
  · unfold I_wait at h6 ⊢
    rw [h.2.2.1, e K_WAIT (by decide)]
    exact h6
theorem oI.ps {C D D' : oM} (hI : oI C D) (h : oPs D D') : oI C D' := by
  obtain ⟨h1, h2, h3, h4, h5, h6, h7⟩ := hI
  have e := h.1
  refine ⟨?_, ?_, ?_, ?_, ?_, ?_, ?_⟩
  · unfold I_land at h1 ⊢
    rw [e K_M_now (by decide)]
    exact h1
  · unfold I_img at h2 ⊢
    rw [h.2.1, e K_M_now (by decide), e K_M_image (by decide)]
    exact h2
  · unfold I_tape at h3 ⊢
    rw [h.2.2.1, e K_M_tape (by decide)]
    exact h3
  · unfold I_sheet at h4 ⊢
    rw [e K_M_sorts (by decide), e K_M_sizes (by decide), e K_M_cells (by decide)]
    exact h4
  · unfold I_slot at h5 ⊢
    rw [e K_M_holdsWhat (by decide), e K_M_holdsA (by decide), e K_M_holdsB (by decide), e K_M_heldCells (by decide)]
    exact h5
  · unfold I_wait at h6 ⊢
    rw [h.2.2.2, e K_M_tells (by decide)]
    exact h6
  · unfold I_con at h7 ⊢
    rw [e K_M_keys (by decide), e K_M_keyAt (by decide)]
    exact h7
theorem oFr.ps {M M1 : oM} (h : oFr oCls M M1) : oPs M M1 := by
  have e : ∀ k, 31 ≤ k → ∀ i, M1 k i = M k i := fun k hk i => h k i (fun q => by have q : k < 31 := q; omega)
  exact ⟨fun k hk => e k ((by decide : ∀ k ∈ oMk, 31 ≤ k) k hk) 0, by rw [e K_MOD (by decide)], by rw [e K_MOD (by decide)], by rw [e K_MOD (by decide)]⟩
theorem oFr.sm {M M1 : oM} (h : oFr oMdl M M1) : oSm M M1 := by
  have e : ∀ k, k < 31 → ∀ i, M1 k i = M k i := fun k hk i => h k i (fun q => by have q : 31 ≤ k ∧ k < 60 := q; omega)
  exact ⟨fun k hk i => e k ((by decide : ∀ k ∈ oCk, k < 31) k hk) i, by rw [e K_OAK (by decide)], by rw [e K_OAK (by decide)], by rw [e K_READER (by decide)]⟩
/-- what the class only works with -/
def oCsc : Nat → Nat → Prop := fun k _ => k = K_WALK ∨ k = K_WX ∨ k = K_WY ∨ k = K_HROW ∨ k = K_NOB ∨ k = K_RNK ∨ k = K_LSTK ∨ k = K_RCOD
theorem oCsc_lt {k i : Nat} (h : oCsc k i) : k < 31 := by
  rcases h with h | h | h | h | h | h | h | h <;> rw [h] <;> decide
theorem oFr.sc {M M1 : oM} (h : oFr oCsc M M1) : oSm M M1 := by
  have e : ∀ k, ¬ (k = K_WALK ∨ k = K_WX ∨ k = K_WY ∨ k = K_HROW ∨ k = K_NOB ∨ k = K_RNK ∨ k = K_LSTK ∨ k = K_RCOD) → ∀ i, M1 k i = M k i := fun k hk i => h k i hk
  exact ⟨fun k hk i => e k ((by decide : ∀ k ∈ oCk, ¬ (k = K_WALK ∨ k = K_WX ∨ k = K_WY ∨ k = K_HROW ∨ k = K_NOB ∨ k = K_RNK ∨ k = K_LSTK ∨ k = K_RCOD)) k hk) i, by rw [e K_OAK (by decide)], by rw [e K_OAK (by decide)], by rw [e K_READER (by decide)]⟩
theorem oFr.scl {M M1 : oM} (h : oFr oCsc M M1) : oFr oCls M M1 := h.mono (fun k i q => oCsc_lt q)
theorem oFr.lk {M M1 : oM} (h : oFr (oKs K_LSTK) M M1) : oFr oCsc M M1 := h.mono (fun k i q => Or.inr (Or.inr (Or.inr (Or.inr (Or.inr (Or.inr (Or.inl q)))))))
theorem oFr.ws {M M1 : oM} {w : Nat} (h : oFr (oWs w) M M1) : oFr oCsc M M1 := h.mono (fun k i q => by
  rcases q with q | ⟨-, q | q | q⟩
  · exact Or.inr (Or.inr (Or.inr (Or.inr (Or.inr (Or.inr (Or.inl q))))))
  · exact Or.inl q
  · exact Or.inr (Or.inl q)
  · exact Or.inr (Or.inr (Or.inl q)))
theorem oFr.wk {M M1 : oM} {w : Nat} (h : oFr (oKi K_WALK w) M M1) : oFr oCsc M M1 := h.mono (fun k i q => Or.inl q.1)
theorem oFr.cs {M M1 : oM} {w r : Nat} (h : oFr (oCs w r) M M1) : oFr oCsc M M1 := h.mono (fun k i q => by
  rcases q with (q | ⟨-, q | q | q⟩) | ⟨q, -⟩
  · exact Or.inr (Or.inr (Or.inr (Or.inr (Or.inr (Or.inr (Or.inl q))))))
  · exact Or.inl q
  · exact Or.inr (Or.inl q)
  · exact Or.inr (Or.inr (Or.inl q))
  · exact Or.inr (Or.inr (Or.inr (Or.inl q))))
theorem oFr.os {M M1 : oM} {w r : Nat} (h : oFr (oOs w r) M M1) : oFr oCsc M M1 := h.mono (fun k i q => by
  rcases q with (q | ⟨-, q | q | q⟩) | ⟨q, -⟩ | ⟨-, q | q⟩
  · exact Or.inr (Or.inr (Or.inr (Or.inr (Or.inr (Or.inr (Or.inl q))))))
  · exact Or.inl q
  · exact Or.inr (Or.inl q)
  · exact Or.inr (Or.inr (Or.inl q))
  · exact Or.inr (Or.inr (Or.inr (Or.inl q)))
  · exact Or.inr (Or.inr (Or.inr (Or.inr (Or.inl q))))
  · exact Or.inr (Or.inr (Or.inr (Or.inr (Or.inr (Or.inl q))))))
/-- what a call of the class does: its answer, and the state that it stands for -/
def oQC (p : Int32 × oM) (M : oM) : Option Int32 → oM → Prop := fun r M' => r = some p.1 ∧ oI M' p.2 ∧ oFr oCls M M'
/-- the same call of the model -/
def oQM (p : Int32 × oM) (M : oM) : Option Int32 → oM → Prop := fun r M' => r = some p.1 ∧ oPs p.2 M' ∧ oFr oMdl M M'
theorem oQC.of {p : Int32 × oM} {M M' D' : oM} {v : Int32} (h : p = (v, D')) (hI : oI M' D') (hF : oFr oCls M M') : oQC p M (some v) M' := by
  subst h
  exact ⟨rfl, hI, hF⟩
/-- the class only looked -/
theorem oQC.look {p : Int32 × oM} {M M' D : oM} {v : Int32} (hI : oI M D) (h : p = (v, D)) (hF : oFr oCsc M M') : oQC p M (some v) M' := oQC.of h (hI.cls hF.sc) hF.scl
theorem oQC.same {p : Int32 × oM} {M D : oM} {v : Int32} (hI : oI M D) (h : p = (v, D)) : oQC p M (some v) M := oQC.of h hI oFr.rf
theorem oQM.of {p : Int32 × oM} {M M' D' : oM} {v : Int32} (h : p = (v, D')) (hI : oPs D' M') (hF : oFr oMdl M M') : oQM p M (some v) M' := by
  subst h
  exact ⟨rfl, hI, hF⟩
theorem oQM.same {p : Int32 × oM} {M D : oM} {v : Int32} (hI : oPs D M) (h : p = (v, D)) : oQM p M (some v) M := oQM.of h hI oFr.rf
/-- a step of the model over what it only works with -/
def oMsk : Nat → Nat → Prop := fun k _ => k = K_MOD ∨ k = K_M_aside ∨ k = K_M_kinds ∨ k = K_M_ways ∨ k = K_M_lengths ∨ k = K_M_cornerX ∨ k = K_M_cornerY ∨ k = K_M_heldBy ∨ k = K_M_ranks ∨ k = K_M_owners ∨ k = K_M_code ∨ k = K_M_waits ∨ k = K_M_tested ∨ k = K_M_stack ∨ k = K_M_facts ∨ k = K_M_moved
def oMs (M M' : oM) : Prop := oFr oMsk M M' ∧ M' K_MOD 0 3 = M K_MOD 0 3 ∧ M' K_MOD 0 14 = M K_MOD 0 14 ∧ M' K_MOD 0 40 = M K_MOD 0 40
theorem oMs.rf {M : oM} : oMs M M := ⟨oFr.rf, rfl, rfl, rfl⟩
theorem oMs.tr {M M1 M2 : oM} (h1 : oMs M M1) (h2 : oMs M1 M2) : oMs M M2 := ⟨h1.1.tr h2.1, h2.2.1.trans h1.2.1, h2.2.2.1.trans h1.2.2.1, h2.2.2.2.trans h1.2.2.2⟩
theorem oMs.at {M M' : oM} (h : oMs M M') {k : Nat} (hk : ¬ (k = K_MOD ∨ k = K_M_aside ∨ k = K_M_kinds ∨ k = K_M_ways ∨ k = K_M_lengths ∨ k = K_M_cornerX ∨ k = K_M_cornerY ∨ k = K_M_heldBy ∨ k = K_M_ranks ∨ k = K_M_owners ∨ k = K_M_code ∨ k = K_M_waits ∨ k = K_M_tested ∨ k = K_M_stack ∨ k = K_M_facts ∨ k = K_M_moved)) (i : Nat) : M' k i = M k i := h.1 k i hk
theorem oMs.ps {M M' : oM} (h : oMs M M') : oPs M M' := ⟨fun k hk => h.at ((by decide : ∀ k ∈ oMk, ¬ (k = K_MOD ∨ k = K_M_aside ∨ k = K_M_kinds ∨ k = K_M_ways ∨ k = K_M_lengths ∨ k = K_M_cornerX ∨ k = K_M_cornerY ∨ k = K_M_heldBy ∨ k = K_M_ranks ∨ k = K_M_owners ∨ k = K_M_code ∨ k = K_M_waits ∨ k = K_M_tested ∨ k = K_M_stack ∨ k = K_M_facts ∨ k = K_M_moved)) k hk) 0, h.2⟩
theorem oMs.md {M M' : oM} (h : oMs M M') : oFr oMdl M M' := h.1.mono (fun k i q => by
  rcases q with q | q | q | q | q | q | q | q | q | q | q | q | q | q | q | q <;> rw [q] <;> exact ⟨by decide, by decide⟩)
theorem oQM.look {p : Int32 × oM} {M M' D : oM} {v : Int32} (hD : oPs D M) (h : p = (v, D)) (hF : oMs M M') : oQM p M (some v) M' := oQM.of h (hD.tr hF.ps) hF.md
theorem oMs_k {M M' : oM} {k : Nat} (hk : ¬ k = K_MOD) (hF : oFr (oKs k) M M') (h : oMsk k 0) : oMs M M' := by
  have e : M' K_MOD 0 = M K_MOD 0 := hF K_MOD 0 (fun q => hk q.symm)
  exact ⟨hF.mono (fun k' i q => by have q : k' = k := q; rw [q]; exact h), by rw [e], by rw [e], by rw [e]⟩
theorem oMs_ml {M M' : oM} (hF : oFr oMl M M') : oMs M M' := by
  have e : M' K_MOD 0 = M K_MOD 0 := hF K_MOD 0 (by rintro (q | q) <;> exact absurd q (by decide))
  exact ⟨hF.mono (fun k i q => by rcases q with q | q <;> rw [q] <;> (show _ ∨ _; simp)), by rw [e], by rw [e], by rw [e]⟩
theorem oMs_mw {M M' : oM} (hF : oFr oMw M M') : oMs M M' := by
  have e : M' K_MOD 0 = M K_MOD 0 := hF K_MOD 0 (by rintro (q | q) <;> exact absurd q (by decide))
  exact ⟨hF.mono (fun k i q => by rcases q with q | q <;> rw [q] <;> (show _ ∨ _; simp)), by rw [e], by rw [e], by rw [e]⟩
theorem oMs_mf {M M' : oM} (hF : oFr oMf M M') (h7 : oM7 M M') : oMs M M' :=
  ⟨hF.mono (fun k i q => by rcases q with (q | q | q | q) | (q | q) | (q | q) <;> rw [q] <;> (show _ ∨ _; simp)), h7 3 (by decide), h7 14 (by decide), h7 40 (by decide)⟩
theorem oMs_mt {M M' : oM} (hF : oFr oMt M M') (h7 : oM7 M M') : oMs M M' := oMs_mf (hF.mono (fun k i q => Or.inl q)) h7
theorem oMs_up {M M1 : oM} {k j : Nat} {v : Int32} (h : oMs M M1) (hk : ¬ k = K_MOD) (hm : oMsk k 0) : oMs M (oUp M1 k 0 j v) := by
  have e : (oUp M1 k 0 j v) K_MOD = M1 K_MOD := oUp_k (fun q => hk q.symm)
  exact ⟨h.1.up hm, by rw [e]; exact h.2.1, by rw [e]; exact h.2.2.1, by rw [e]; exact h.2.2.2⟩
theorem oMs_mod {M M1 : oM} {j : Nat} {v : Int32} (h : oMs M M1) (hj : ¬ (j = 3 ∨ j = 14 ∨ j = 40)) : oMs M (oUp M1 K_MOD 0 j v) :=
  ⟨h.1.up (Or.inl rfl), (oUp_j (fun q => hj (Or.inl q.symm))).trans h.2.1, (oUp_j (fun q => hj (Or.inr (Or.inl q.symm)))).trans h.2.2.1, (oUp_j (fun q => hj (Or.inr (Or.inr q.symm)))).trans h.2.2.2⟩
-- a row set anew
def oSR (D : oM) (k : Nat) (f : Nat → Int32) : oM := fun k' => if k' = k then (fun i => if i = 0 then f else D k' i) else D k'
theorem oSR_at {D : oM} {k : Nat} {f : Nat → Int32} : oSR D k f k 0 = f := by
  unfold oSR
  rw [if_pos rfl, if_pos rfl]
theorem oSR_ne {D : oM} {k k' : Nat} {f : Nat → Int32} (h : ¬ k' = k) : oSR D k f k' = D k' := by
  unfold oSR
  rw [if_neg h]
theorem oUp_upd {M : oM} {k i j : Nat} {v : Int32} : oUp M k i j v k i = upd (M k i) j v := oUp_at
/-- a step of the model over one lasting row, besides what it only works with -/
theorem oPs_row {D M M' : oM} {k : Nat} {f : Nat → Int32} (hk : k ∈ oMk) (hD : oPs D M) (hF : oFr (fun k' i => oMsk k' i ∨ k' = k) M M') (h3 : M' K_MOD 0 3 = M K_MOD 0 3) (h14 : M' K_MOD 0 14 = M K_MOD 0 14) (h40 : M' K_MOD 0 40 = M K_MOD 0 40) (hf : M' k 0 = f) : oPs (oSR D k f) M' := by
  have hm : ¬ K_MOD = k := fun q => by rw [← q] at hk; revert hk; decide
  refine ⟨fun k' hk' => ?_, ?_, ?_, ?_⟩
  · by_cases e : k' = k
    · subst e
      rw [oSR_at]
      exact hf
    · rw [oSR_ne e, ← hD.1 k' hk']
      refine hF k' 0 (fun q => q.elim (fun q => ?_) e)
      exact (by decide : ∀ k ∈ oMk, ¬ (k = K_MOD ∨ k = K_M_aside ∨ k = K_M_kinds ∨ k = K_M_ways ∨ k = K_M_lengths ∨ k = K_M_cornerX ∨ k = K_M_cornerY ∨ k = K_M_heldBy ∨ k = K_M_ranks ∨ k = K_M_owners ∨ k = K_M_code ∨ k = K_M_waits ∨ k = K_M_tested ∨ k = K_M_stack ∨ k = K_M_facts ∨ k = K_M_moved)) k' hk' q
  · rw [oSR_ne hm, h3]; exact hD.2.1
  · rw [oSR_ne hm, h14]; exact hD.2.2.1
  · rw [oSR_ne hm, h40]; exact hD.2.2.2
/-- only one lasting row changed -/
theorem oQM.row {p : Int32 × oM} {D M M' : oM} {k : Nat} {v : Int32} {f : Nat → Int32} (hk : k ∈ oMk) (hD : oPs D M) (h : p = (v, oSR D k f)) (hF : oFr (oKi k 0) M M') (hf : M' k 0 = f) : oQM p M (some v) M' := by
  have hm : ¬ K_MOD = k := fun q => by rw [← q] at hk; revert hk; decide
  have e : M' K_MOD 0 = M K_MOD 0 := hF K_MOD 0 (fun q => hm q.1)
  refine oQM.of h (oPs_row hk hD (hF.mono (fun k i q => Or.inr q.1)) (by rw [e]) (by rw [e]) (by rw [e]) hf) (hF.mono (fun k' i q => ?_))
  rw [q.1]
  exact (by decide : ∀ k ∈ oMk, 31 ≤ k ∧ k < 60) k hk
