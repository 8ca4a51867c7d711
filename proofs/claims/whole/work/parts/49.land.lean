/-! ===== what changes in the land ===== -/
def oLd0 : Nat → Nat → Prop := fun k i => oLS 0 k i ∨ oCsc k i
theorem oCsc_no {k i : Nat} (h : k ∈ oCk) : ¬ oCsc k i := (by decide : ∀ k ∈ oCk, ¬ (k = K_WALK ∨ k = K_WX ∨ k = K_WY ∨ k = K_HROW ∨ k = K_NOB ∨ k = K_RNK ∨ k = K_LSTK ∨ k = K_RCOD)) k h
theorem oLd0_hi {k i : Nat} (hk : k ∈ oCk) (h : 4 ≤ i) : ¬ oLd0 k i := by
  rintro ((⟨q, -⟩ | ⟨-, q, -⟩) | q)
  · omega
  · omega
  · exact oCsc_no hk q
theorem oLd0_k {k i : Nat} (hk : k ∈ [K_TEXT, K_TCOD, K_RBYT, K_ROW, K_RPL, K_SLOT, K_WAIT, K_OAK, K_READER]) : ¬ oLd0 k i := by
  have key : ∀ k ∈ [K_TEXT, K_TCOD, K_RBYT, K_ROW, K_RPL, K_SLOT, K_WAIT, K_OAK, K_READER], ¬ ((k = K_LAND ∨ k = K_STX ∨ k = K_STY) ∨ (k = K_DEED ∨ k = K_DK ∨ k = K_DW ∨ k = K_DL) ∨ (k = K_WALK ∨ k = K_WX ∨ k = K_WY ∨ k = K_HROW ∨ k = K_NOB ∨ k = K_RNK ∨ k = K_LSTK ∨ k = K_RCOD)) := by decide
  intro q
  refine key k hk ?_
  rcases q with (⟨-, q⟩ | ⟨-, -, q⟩) | q
  · exact Or.inl q
  · exact Or.inr (Or.inl q)
  · exact Or.inr (Or.inr q)
theorem oLd0_1 {k : Nat} (hk : k ∈ [K_LAND, K_STX, K_STY]) : ¬ oLd0 k 1 := by
  rintro ((⟨q, -⟩ | ⟨-, -, q⟩) | q)
  · omega
  · exact (by decide : ∀ k ∈ [K_LAND, K_STX, K_STY], ¬ (k = K_DEED ∨ k = K_DK ∨ k = K_DW ∨ k = K_DL)) k hk q
  · exact (by decide : ∀ k ∈ [K_LAND, K_STX, K_STY], ¬ (k = K_WALK ∨ k = K_WX ∨ k = K_WY ∨ k = K_HROW ∨ k = K_NOB ∨ k = K_RNK ∨ k = K_LSTK ∨ k = K_RCOD)) k hk q
theorem oRL_img {C C' : oM} {N : Nat → Int32} (hF : oFr oLd0 C C') (h : oRL C N 1) : oRL C' N 1 := by
  have e1 := hF K_LAND 1 (oLd0_1 (by decide))
  have e2 := hF K_STX 1 (oLd0_1 (by decide))
  have e3 := hF K_STY 1 (oLd0_1 (by decide))
  have e4 : ∀ k ∈ [K_DEED, K_DK, K_DW, K_DL], ∀ d, C' k (4 * 1 + d) = C k (4 * 1 + d) := fun k hk d => hF k _ (oLd0_hi ((by decide : ∀ k ∈ [K_DEED, K_DK, K_DW, K_DL], k ∈ oCk) k hk) (by omega))
  have e5 : ∀ t, C' K_TEXT t = C K_TEXT t := fun t => hF _ _ (oLd0_k (by decide))
  have e6 : ∀ t, C' K_TCOD t = C K_TCOD t := fun t => hF _ _ (oLd0_k (by decide))
  unfold oRL oRD oRT at h ⊢
  simp only [e1, e2, e3, e4 K_DEED (by decide), e4 K_DK (by decide), e4 K_DW (by decide), e4 K_DL (by decide), e5, e6]
  exact h
theorem oI.land {C C' D : oM} {N' : Nat → Int32} (hI : oI C D) (hF : oFr oLd0 C C') (hN : oNOk N') (hL : oRL C' N' 0) (hT : cT (D K_M_now 0) ≤ cT N') : oI C' (oSR D K_M_now N') := by
  obtain ⟨h1, h2, h3, h4, h5, h6, h7⟩ := hI
  have eo : C' K_OAK 0 = C K_OAK 0 := hF _ _ (oLd0_k (by decide))
  have er : C' K_READER 0 = C K_READER 0 := hF _ _ (oLd0_k (by decide))
  have e : ∀ k ∈ [K_TEXT, K_TCOD, K_RBYT, K_ROW, K_RPL, K_SLOT, K_WAIT, K_OAK, K_READER], ∀ i, C' k i = C k i := fun k hk i => hF _ _ (oLd0_k hk)
  refine ⟨?_, ?_, ?_, ?_, ?_, ?_, ?_⟩
  · unfold I_land
    rw [oSR_at]
    exact ⟨hN, hL⟩
  · unfold I_img at h2 ⊢
    rw [oSR_ne (by decide), oSR_ne (by decide), oSR_at, eo]
    exact ⟨h2.1, h2.2.imp id (fun q => ⟨q.1, q.2.1, oRL_img hF q.2.2.1, Nat.le_trans q.2.2.2 hT⟩)⟩
  · unfold I_tape at h3 ⊢
    rw [oSR_ne (by decide), oSR_ne (by decide), er, e K_RBYT (by decide)]
    exact h3
  · unfold I_sheet at h4 ⊢
    simp only [e K_ROW (by decide), e K_RPL (by decide)]
    rw [oSR_ne (by decide), oSR_ne (by decide), oSR_ne (by decide)]
    exact h4
  · unfold I_slot at h5 ⊢
    simp only [e K_ROW (by decide), e K_RPL (by decide), e K_SLOT (by decide)]
    rw [oSR_ne (by decide), oSR_ne (by decide), oSR_ne (by decide), oSR_ne (by decide)]
    exact h5
  · unfold I_wait at h6 ⊢
    rw [oSR_ne (by decide), oSR_ne (by decide), eo, e K_WAIT (by decide)]
    exact h6
  · unfold I_con at h7 ⊢
    rw [oSR_ne (by decide), oSR_ne (by decide)]
    exact h7
theorem oLd0_cls {k i : Nat} (h : oLd0 k i) : oCls k i := by
  show k < 31
  rcases h with (⟨-, q | q | q⟩ | ⟨-, -, q | q | q | q⟩) | q
  · rw [q]; decide
  · rw [q]; decide
  · rw [q]; decide
  · rw [q]; decide
  · rw [q]; decide
  · rw [q]; decide
  · rw [q]; decide
  · exact oCsc_lt q
theorem oQC.land {p : Int32 × oM} {M M' D : oM} {v : Int32} {N' : Nat → Int32} (hI : oI M D) (h : p = (v, oSR D K_M_now N')) (hF : oFr oLd0 M M') (hN : oNOk N') (hL : oRL M' N' 0) (hT : cT (D K_M_now 0) ≤ cT N') : oQC p M (some v) M' := oQC.of h (hI.land hF hN hL hT) (hF.mono (fun k i q => oLd0_cls q))
-- one deed alone
theorem oDeed_ok {N N' : Nat → Int32} {d : Nat} (hN : oNOk N) (hd : d < cD N) (hs : ∀ j, ¬ (20 + 35 * d ≤ j ∧ j < 55 + 35 * d) → N' j = N j) (hO : oDOk N' d) : oNOk N' := by
  obtain ⟨-, d4⟩ := oND hN
  obtain ⟨h1, h2, h3, h4, h5, h6⟩ := hN
  have e1 : cS N' = cS N := by unfold cS; rw [hs 1 (by omega)]
  have e2 : cD N' = cD N := by unfold cD; rw [hs 2 (by omega)]
  have e3 : cT N' = cT N := by unfold cT; rw [hs 3 (by omega)]
  refine ⟨by rw [hs 1 (by omega)]; exact h1, by rw [hs 2 (by omega)]; exact h2, by rw [hs 3 (by omega)]; exact h3, fun i hi => ?_, fun e he => ?_, fun t ht => ?_⟩
  · rw [e1] at hi
    have : cS N ≤ 8 := (inR_nI (n := 8) h1 (by decide)).2
    rw [hs _ (by omega), hs _ (by omega)]
    exact h4 i hi
  · rw [e2] at he
    by_cases z : e = d
    · rw [z]; exact hO
    · have hc : N' (20 + 35 * e + 4) = N (20 + 35 * e + 4) := hs _ (by omega)
      have ec : cC N' e = cC N e := by unfold cC; rw [hc]
      have h5e := h5 e he
      have c10 := (oNC h5e).2
      unfold oDOk at h5e ⊢
      rw [ec, hc, hs (20 + 35 * e) (by omega), hs (20 + 35 * e + 1) (by omega), hs (20 + 35 * e + 2) (by omega), hs (20 + 35 * e + 3) (by omega)]
      refine ⟨h5e.1, h5e.2.1, h5e.2.2.1, h5e.2.2.2.1, h5e.2.2.2.2.1, fun j hj => ?_⟩
      rw [hs (20 + 35 * e + 5 + 3 * j) (by omega), hs (20 + 35 * e + 5 + 3 * j + 1) (by omega), hs (20 + 35 * e + 5 + 3 * j + 2) (by omega)]
      exact h5e.2.2.2.2.2 j hj
  · rw [e3] at ht
    have h6t := h6 t ht
    have ef : (fun k => N' (188 + 96 * t + k)) = (fun k => N (188 + 96 * t + k)) := by
      funext k
      exact hs _ (by omega)
    unfold oTOk tN tK at h6t ⊢
    rw [hs (160 + 2 * t) (by omega), ef]
    exact h6t
theorem oDeed_rl {C C' : oM} {N N' : Nat → Int32} {d : Nat} (hN : oNOk N) (hL : oRL C N 0) (hd : d < cD N) (hs : ∀ j, ¬ (20 + 35 * d ≤ j ∧ j < 55 + 35 * d) → N' j = N j) (hF : oFr (oDS (4 * 0 + d)) C C') (hR : oRD C' N' (4 * 0 + d) d) : oRL C' N' 0 := by
  obtain ⟨-, d4⟩ := oND hN
  obtain ⟨-, s8⟩ := oNS hN
  have e1 : cS N' = cS N := by unfold cS; rw [hs 1 (by omega)]
  have e2 : cD N' = cD N := by unfold cD; rw [hs 2 (by omega)]
  have e3 : cT N' = cT N := by unfold cT; rw [hs 3 (by omega)]
  have ek : ∀ k ∈ [K_LAND, K_STX, K_STY, K_TEXT, K_TCOD], ∀ i, C' k i = C k i := fun k hk i => hF k i (fun q => (by decide : ∀ k ∈ [K_LAND, K_STX, K_STY, K_TEXT, K_TCOD], ¬ (k = K_DEED ∨ k = K_DK ∨ k = K_DW ∨ k = K_DL)) k hk q.2)
  obtain ⟨l1, l2, l3, l4, l5, l6, l7⟩ := hL
  unfold oRL
  rw [e1, e2, e3, ek K_LAND (by decide), ek K_STX (by decide), ek K_STY (by decide), hs 0 (by omega), hs 1 (by omega), hs 2 (by omega), hs 3 (by omega)]
  refine ⟨l1, l2, l3, l4, fun i hi => ?_, fun e he => ?_, fun t ht => ?_⟩
  · rw [hs _ (by omega), hs _ (by omega)]
    exact l5 i hi
  · by_cases z : e = d
    · rw [z]; exact hR
    · have ei : ∀ k, C' k (4 * 0 + e) = C k (4 * 0 + e) := fun k => hF _ _ (fun q => z (by have := q.1; omega))
      have hle := l6 e he
      have c10 := (oNC (hN.2.2.2.2.1 e he)).2
      have ec : cC N' e = cC N e := by unfold cC; rw [hs _ (by omega)]
      unfold oRD at hle ⊢
      rw [ec, ei, ei, ei, ei]
      refine ⟨fun w hw => ?_, fun j hj => ?_⟩
      · rw [hs _ (by omega)]
        exact hle.1 w hw
      · rw [hs _ (by omega), hs _ (by omega), hs _ (by omega)]
        exact hle.2 j hj
  · have h7t := l7 t ht
    have t96 := (hN.2.2.2.2.2 t ht).2.1
    have et : tN N' t = tN N t := by unfold tN; rw [hs _ (by omega)]
    have ekk : tK N' t = tK N t := by unfold tK; rw [hs _ (by omega)]
    unfold oRT at h7t ⊢
    rw [et, ekk, ek K_TEXT (by decide), ek K_TCOD (by decide), hs _ (by omega)]
    refine ⟨h7t.1, h7t.2.1, h7t.2.2.1, fun k hk => ?_⟩
    rw [hs _ (by omega)]
    exact h7t.2.2.2 k hk
theorem oDS_ld {d : Nat} (hd : d < 4) {k i : Nat} (h : oDS (4 * 0 + d) k i) : oLd0 k i := Or.inl (Or.inr ⟨by have := h.1; omega, by have := h.1; omega, h.2⟩)
/-- one deed of the land changed -/
theorem oQC.deed {p : Int32 × oM} {M M' D : oM} {v : Int32} {N' : Nat → Int32} {d : Nat} (hI : oI M D) (h : p = (v, oSR D K_M_now N')) (hd : d < cD (D K_M_now 0)) (hs : ∀ j, ¬ (20 + 35 * d ≤ j ∧ j < 55 + 35 * d) → N' j = D K_M_now 0 j) (hF : oFr (oDS (4 * 0 + d)) M M') (hO : oDOk N' d) (hR : oRD M' N' (4 * 0 + d) d) : oQC p M (some v) M' := by
  obtain ⟨-, d4⟩ := oND hI.ok
  refine oQC.land hI h (hF.mono (fun k i q => oDS_ld (by omega) q)) (oDeed_ok hI.ok hd hs hO) (oDeed_rl hI.ok hI.rl hd hs hF hR) ?_
  have : cT N' = cT (D K_M_now 0) := by unfold cT; rw [hs 3 (by omega)]
  omega
