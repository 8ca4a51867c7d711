/-! ===== keep, back, check ===== -/
def cpN (f g : Nat → Int32) : Nat → Int32 := fun j => if j < 1532 then f j else g j
theorem cpN_lt {f g : Nat → Int32} {j : Nat} (h : j < 1532) : cpN f g j = f j := if_pos h
theorem oDp_congr {c c' : Nat → Int32} : ∀ {n : Nat}, (∀ k, k < n → c k = c' k) → oDp c n = oDp c' n
  | 0, _ => rfl
  | n + 1, h => by
    unfold oDp
    rw [oDp_congr (fun k hk => h k (by omega)), h n (by omega)]
theorem oNOk_cg {N N' : Nat → Int32} (h : ∀ j, j < 1532 → N' j = N j) (hN : oNOk N) : oNOk N' := by
  obtain ⟨-, s8⟩ := oNS hN
  obtain ⟨-, d4⟩ := oND hN
  obtain ⟨-, t14⟩ := oNT hN
  obtain ⟨h1, h2, h3, h4, h5, h6⟩ := hN
  have e1 : cS N' = cS N := by unfold cS; rw [h 1 (by omega)]
  have e2 : cD N' = cD N := by unfold cD; rw [h 2 (by omega)]
  have e3 : cT N' = cT N := by unfold cT; rw [h 3 (by omega)]
  refine ⟨by rw [h 1 (by omega)]; exact h1, by rw [h 2 (by omega)]; exact h2, by rw [h 3 (by omega)]; exact h3, fun i hi => ?_, fun e he => ?_, fun t ht => ?_⟩
  · rw [e1] at hi
    rw [h _ (by omega), h _ (by omega)]
    exact h4 i hi
  · rw [e2] at he
    have h5e := h5 e he
    have c10 := (oNC h5e).2
    have ec : cC N' e = cC N e := by unfold cC; rw [h _ (by omega)]
    unfold oDOk at h5e ⊢
    rw [ec, h (20 + 35 * e + 4) (by omega), h (20 + 35 * e) (by omega), h (20 + 35 * e + 1) (by omega), h (20 + 35 * e + 2) (by omega), h (20 + 35 * e + 3) (by omega)]
    refine ⟨h5e.1, h5e.2.1, h5e.2.2.1, h5e.2.2.2.1, h5e.2.2.2.2.1, fun j hj => ?_⟩
    rw [h (20 + 35 * e + 5 + 3 * j) (by omega), h (20 + 35 * e + 5 + 3 * j + 1) (by omega), h (20 + 35 * e + 5 + 3 * j + 2) (by omega)]
    exact h5e.2.2.2.2.2 j hj
  · rw [e3] at ht
    obtain ⟨g1, g2, g3, g4⟩ := h6 t ht
    have et : tN N' t = tN N t := by unfold tN; rw [h _ (by omega)]
    have ek : tK N' t = tK N t := by unfold tK; rw [h _ (by omega)]
    refine ⟨by rw [h _ (by omega)]; exact g1, by rw [et]; exact g2, ?_, ?_⟩
    · rw [et, ← g3]
      exact oDp_congr (fun k hk => h _ (by omega))
    · intro k hk
      rw [et] at hk
      rw [ek]
      show inR (N' (188 + 96 * t + k)) _ _
      rw [h _ (by omega)]
      exact g4 k hk
theorem oRL_cg {C : oM} {N N' : Nat → Int32} {l : Nat} (h : ∀ j, j < 1532 → N' j = N j) (hN : oNOk N) (hL : oRL C N l) : oRL C N' l := by
  obtain ⟨-, s8⟩ := oNS hN
  obtain ⟨-, d4⟩ := oND hN
  obtain ⟨-, t14⟩ := oNT hN
  obtain ⟨l1, l2, l3, l4, l5, l6, l7⟩ := hL
  have e1 : cS N' = cS N := by unfold cS; rw [h 1 (by omega)]
  have e2 : cD N' = cD N := by unfold cD; rw [h 2 (by omega)]
  have e3 : cT N' = cT N := by unfold cT; rw [h 3 (by omega)]
  refine ⟨by rw [h 1 (by omega)]; exact l1, by rw [h 2 (by omega)]; exact l2, by rw [h 3 (by omega)]; exact l3, by rw [h 0 (by omega)]; exact l4, fun i hi => ?_, fun e he => ?_, fun t ht => ?_⟩
  · rw [e1] at hi
    rw [h _ (by omega), h _ (by omega)]
    exact l5 i hi
  · rw [e2] at he
    have hle := l6 e he
    have c10 := (oNC (hN.2.2.2.2.1 e he)).2
    have ec : cC N' e = cC N e := by unfold cC; rw [h _ (by omega)]
    unfold oRD at hle ⊢
    rw [ec]
    refine ⟨fun w hw => ?_, fun j hj => ?_⟩
    · rw [h _ (by omega)]
      exact hle.1 w hw
    · rw [h _ (by omega), h _ (by omega), h _ (by omega)]
      exact hle.2 j hj
  · rw [e3] at ht
    have h7t := l7 t ht
    have t96 := (hN.2.2.2.2.2 t ht).2.1
    have et : tN N' t = tN N t := by unfold tN; rw [h _ (by omega)]
    have ek : tK N' t = tK N t := by unfold tK; rw [h _ (by omega)]
    unfold oRT at h7t ⊢
    rw [et, ek, h (160 + 2 * t + 1) (by omega)]
    refine ⟨h7t.1, h7t.2.1, h7t.2.2.1, fun k hk => ?_⟩
    rw [h _ (by omega)]
    exact h7t.2.2.2 k hk
/-- a land taken from another -/
theorem oRL_take {M M' : oM} {N : Nat → Int32} {a b : Nat} (hN : oNOk N) (hL : oRL M N b) (h1 : M' K_LAND a 1 = M K_LAND b 1 ∧ M' K_LAND a 4 = M K_LAND b 4 ∧ M' K_LAND a 6 = M K_LAND b 6 ∧ M' K_LAND a 7 = M K_LAND b 7) (h2 : ∀ s, s < 8 → M' K_STX a s = M K_STX b s ∧ M' K_STY a s = M K_STY b s) (h3 : ∀ d, d < 4 → (∀ w, w < 5 → M' K_DEED (4 * a + d) w = M K_DEED (4 * b + d) w) ∧ ∀ s, s < 10 → M' K_DK (4 * a + d) s = M K_DK (4 * b + d) s ∧ M' K_DW (4 * a + d) s = M K_DW (4 * b + d) s ∧ M' K_DL (4 * a + d) s = M K_DL (4 * b + d) s) (h4 : ∀ t, M' K_TEXT t = M K_TEXT t ∧ M' K_TCOD t = M K_TCOD t) : oRL M' N a := by
  obtain ⟨-, s8⟩ := oNS hN
  obtain ⟨-, d4⟩ := oND hN
  obtain ⟨l1, l2, l3, l4, l5, l6, l7⟩ := hL
  refine ⟨h1.1.trans l1, h1.2.1.trans l2, h1.2.2.1.trans l3, h1.2.2.2.trans l4, fun i hi => ?_, fun e he => ?_, fun t ht => ?_⟩
  · rw [(h2 i (by omega)).1, (h2 i (by omega)).2]
    exact l5 i hi
  · have hle := l6 e he
    have c10 := (oNC (hN.2.2.2.2.1 e he)).2
    obtain ⟨g1, g2⟩ := h3 e (by omega)
    refine ⟨fun w hw => (g1 w hw).trans (hle.1 w hw), fun j hj => ?_⟩
    obtain ⟨q1, q2, q3⟩ := g2 j (by omega)
    rw [q1, q2, q3]
    exact hle.2 j hj
  · have h7t := l7 t ht
    unfold oRT at h7t ⊢
    rw [(h4 t).1, (h4 t).2]
    exact h7t
theorem oLS_k {l k i : Nat} (hk : k ∈ [K_TEXT, K_TCOD, K_RBYT, K_ROW, K_RPL, K_SLOT, K_WAIT, K_OAK, K_READER]) : ¬ oLS l k i := by
  have key : ∀ k ∈ [K_TEXT, K_TCOD, K_RBYT, K_ROW, K_RPL, K_SLOT, K_WAIT, K_OAK, K_READER], ¬ ((k = K_LAND ∨ k = K_STX ∨ k = K_STY) ∨ (k = K_DEED ∨ k = K_DK ∨ k = K_DW ∨ k = K_DL)) := by decide
  intro q
  refine key k hk ?_
  rcases q with ⟨-, q⟩ | ⟨-, -, q⟩
  · exact Or.inl q
  · exact Or.inr q
theorem oLS_cls {l k i : Nat} (h : oLS l k i) : oCls k i := by
  show k < 31
  rcases h with ⟨-, q | q | q⟩ | ⟨-, -, q | q | q | q⟩ <;> rw [q] <;> decide
theorem oRL_other {C C' : oM} {N : Nat → Int32} {l m : Nat} (hlm : ¬ l = m) (hN : oNOk N) (hF : oFr (oLS m) C C') (h : oRL C N l) : oRL C' N l := by
  obtain ⟨-, d4⟩ := oND hN
  have e1 : ∀ k, k = K_LAND ∨ k = K_STX ∨ k = K_STY → C' k l = C k l := by
    intro k hk
    refine hF k l (fun q => ?_)
    rcases q with ⟨q, -⟩ | ⟨-, -, q⟩
    · exact hlm q
    · rcases hk with z | z | z <;> rw [z] at q <;> exact absurd q (by decide)
  have e4 : ∀ k, k = K_DEED ∨ k = K_DK ∨ k = K_DW ∨ k = K_DL → ∀ d, d < 4 → C' k (4 * l + d) = C k (4 * l + d) := by
    intro k hk d hd
    refine hF k _ (fun q => ?_)
    rcases q with ⟨-, q⟩ | ⟨q1, q2, q⟩
    · rcases hk with z | z | z | z <;> rw [z] at q <;> exact absurd q (by decide)
    · omega
  have e5 : ∀ t, C' K_TEXT t = C K_TEXT t := fun t => hF _ _ (oLS_k (by decide))
  have e6 : ∀ t, C' K_TCOD t = C K_TCOD t := fun t => hF _ _ (oLS_k (by decide))
  obtain ⟨l1, l2, l3, l4, l5, l6, l7⟩ := h
  refine ⟨by rw [e1 _ (Or.inl rfl)]; exact l1, by rw [e1 _ (Or.inl rfl)]; exact l2, by rw [e1 _ (Or.inl rfl)]; exact l3, by rw [e1 _ (Or.inl rfl)]; exact l4, fun i hi => ?_, fun e he => ?_, fun t ht => ?_⟩
  · rw [e1 _ (Or.inr (Or.inl rfl)), e1 _ (Or.inr (Or.inr rfl))]
    exact l5 i hi
  · have hle := l6 e he
    unfold oRD at hle ⊢
    rw [e4 _ (Or.inl rfl) e (by omega), e4 _ (Or.inr (Or.inl rfl)) e (by omega), e4 _ (Or.inr (Or.inr (Or.inl rfl))) e (by omega), e4 _ (Or.inr (Or.inr (Or.inr rfl))) e (by omega)]
    exact hle
  · have h7t := l7 t ht
    unfold oRT at h7t ⊢
    rw [e5, e6]
    exact h7t
theorem c_Mod_copyAll (M : oM) (k0 k1 : Nat) (h0 : oKD k0 = .inr (0, 1532, none)) (h1 : oKD k1 = .inr (0, 1532, none)) (hne : ¬ k0 = k1) (q0 : Nat.beq k0 K_OPQ = false) (q1 : Nat.beq k1 K_OPQ = false) : oCt 0 k_Mod_copyAll [.inr (k0, 0), .inr (k1, 0)] M (fun r M' => r = none ∧ M' k1 0 = cpN (M k0 0) (M k1 0) ∧ oFr (oKi k1 0) M M') := by
  refine oCt.of (ls := [some (.inr (k0, 0)), some (.inr (k1, 0)), none]) mok_Mod_copyAll rfl rfl ?_
  have loop : ∀ (q k : Nat) (M1 : oM), k + q = 1532 → M1 k1 0 = (fun j => if j < k then M k0 0 j else M k1 0 j) → oFr (oKi k1 0) M M1 → oG k_Mod_copyAll 0 2 [some (.inr (k0, 0)), some (.inr (k1, 0)), some (.inl (nI k))] [] M1 (fun r M' => r = none ∧ M' k1 0 = cpN (M k0 0) (M k1 0) ∧ oFr (oKi k1 0) M M') := by
    intro q
    induction q with
    | zero =>
      intro k M1 hk hM hF
      obtain rfl : k = 1532 := by omega
      refine oRun_ok 2 rfl ?_
      refine g_ic_ge rfl (fun _ => ?_) (fun z => absurd (Int32.le_refl _) z)
      exact g_ret rfl rfl ⟨rfl, hM, hF⟩
    | succ q ih =>
      intro k M1 hk hM hF
      refine oRun_ok 2 rfl ?_
      refine g_ic_ge rfl (fun z => ?_) (fun _ => ?_)
      · have z : nI 1532 ≤ nI k := z
        rw [nIle (by omega) (by omega)] at z
        omega
      refine g_aload_n rfl rfl q1 ?_
      refine oRun_ok 1 rfl ?_
      refine g_aload_n rfl rfl q0 ?_
      refine oRun_ok 1 rfl ?_
      refine g_iald k rfl h0 rfl (by omega) ?_
      refine g_iast k rfl h1 rfl (by omega) ?_
      refine oRun_ok 2 rfl ?_
      rw [nI_1]
      refine ih (k + 1) _ (by omega) ?_ (hF.up ⟨rfl, rfl⟩)
      rw [oUp_at, hM, hF k0 0 (fun z => hne z.1)]
      funext j
      by_cases z : j = k
      · subst z
        rw [if_pos rfl, if_pos (by omega)]
      · rw [if_neg z]
        by_cases y : j < k
        · exact (if_pos y).trans (if_pos (by omega)).symm
        · exact (if_neg y).trans (if_neg (by omega)).symm
  refine oRun_ok 2 rfl ?_
  refine loop 1532 0 M rfl ?_ oFr.rf
  funext j
  rw [if_neg (by omega)]
-- keep
def D_keep (D : oM) : oM := oUp (oSR D K_M_image (cpN (D K_M_now 0) (D K_M_image 0))) K_MOD 0 3 1
def s_keep (D : oM) : Int32 × oM := (D K_M_now 0 2, D_keep D)
theorem p_keep (M D : oM) (hI : oI M D) : oCt 3 k_Oak_keep [.inr (K_OAK, 0)] M (oQC (s_keep D) M) := by
  refine oCt.of (ls := [some (.inr (K_OAK, 0))]) mok_Oak_keep rfl rfl ?_
  refine oRun_ok 4 rfl ?_
  refine g_callV rfl rfl rfl rfl rfl mok_Land_takeFrom (by decide) (c_Land_takeFrom _ 1 0 (by decide)) ?_
  rintro r M' ⟨rfl, f1, f2, f3, f4⟩
  refine oRun_ok 2 rfl ?_
  refine g_put rfl rfl rfl rfl rfl rfl rfl ?_
  refine oRun_ok 3 rfl ?_
  refine g_iret rfl rfl rfl ?_
  have eL : M' 1 1 4 = D K_M_now 0 2 := f1.2.1.trans hI.dd
  rw [oUp_k (by decide), eL]
  have dd : ∀ k, ¬ (k = K_M_image ∨ k = K_MOD) → D_keep D k = D k := by
    intro k hk
    unfold D_keep
    rw [oUp_k (fun z => hk (Or.inr z)), oSR_ne (fun z => hk (Or.inl z))]
  have dm : ∀ j, ¬ j = 3 → D_keep D K_MOD 0 j = D K_MOD 0 j := by
    intro j hj
    unfold D_keep
    rw [oUp_j hj, oSR_ne (by decide)]
  have di : D_keep D K_M_image 0 = cpN (D K_M_now 0) (D K_M_image 0) := by
    unfold D_keep
    rw [oUp_k (by decide), oSR_at]
  have ek : ∀ k ∈ [K_TEXT, K_TCOD, K_RBYT, K_ROW, K_RPL, K_SLOT, K_WAIT, K_OAK, K_READER], ¬ k = K_OAK → ∀ i, oUp M' K_OAK 0 2 1 k i = M k i := by
    intro k hk hne i
    rw [oUp_k hne]
    exact f4 k i (oLS_k hk)
  have eo : ∀ j, ¬ j = 2 → oUp M' K_OAK 0 2 1 K_OAK 0 j = M K_OAK 0 j := by
    intro j hj
    rw [oUp_j hj, f4 K_OAK 0 (oLS_k (by decide))]
  have kk : oKp M' (oUp M' K_OAK 0 2 1) := oKp_up oKp.rf (by decide)
  have cg := fun j hj => (cpN_lt (f := D K_M_now 0) (g := D K_M_image 0) (j := j) hj)
  refine oQC.of (D' := D_keep D) rfl ⟨?_, ?_, hI.tape.cg (by rw [ek _ (by decide) (by decide)]) (by rw [ek _ (by decide) (by decide)]) (dm 14 (by decide)) (by rw [dd _ (by decide)]), hI.sheet.cg (fun s hs => ⟨ek _ (by decide) (by decide) s, ek _ (by decide) (by decide) s⟩) (by rw [dd _ (by decide)]) (by rw [dd _ (by decide)]) (by rw [dd _ (by decide)]), hI.slot.cg (fun s hs => ⟨ek _ (by decide) (by decide) s, ek _ (by decide) (by decide) _, ek _ (by decide) (by decide) _⟩) (by rw [dd _ (by decide)]) (by rw [dd _ (by decide)]) (by rw [dd _ (by decide)]) (by rw [dd _ (by decide)]), hI.wait.cg (eo 12 (by decide)) (by rw [ek _ (by decide) (by decide)]) (dm 40 (by decide)) (by rw [dd _ (by decide)]), hI.con.cg (by rw [dd _ (by decide)]) (by rw [dd _ (by decide)])⟩ ((f4.mono (fun k i q => oLS_cls q)).cl (by decide))
  · unfold I_land
    rw [dd _ (by decide)]
    exact ⟨hI.ok, oRL_kp kk (oRL_other (by decide) hI.ok f4 hI.rl)⟩
  · refine ⟨?_, Or.inr ⟨oUp_self, ?_, ?_, ?_⟩⟩
    · rw [show oUp M' K_OAK 0 2 1 K_OAK 0 2 = 1 from oUp_self]
      exact oUp_self
    · rw [di]
      exact oNOk_cg cg hI.ok
    · rw [di]
      exact oRL_kp kk (oRL_cg cg hI.ok (oRL_take hI.ok hI.rl f1 f2 f3 (fun t => ⟨f4 _ _ (oLS_k (by decide)), f4 _ _ (oLS_k (by decide))⟩)))
    · rw [di, dd _ (by decide)]
      unfold cT
      rw [cg 3 (by decide)]
      exact Nat.le_refl _
theorem q_keep (C M D : oM) (hI : oI C D) (hD : oPs D M) : oCt 3 k_Mod_keep [.inr (K_MOD, 0)] M (oQM (s_keep D) M) := by
  have hN := hD.now
  refine oCt.of (ls := [some (.inr (K_MOD, 0))]) mok_Mod_keep rfl rfl ?_
  refine oRun_ok 4 rfl ?_
  refine g_callS rfl rfl rfl rfl mok_Mod_copyAll (by decide) (c_Mod_copyAll _ 32 33 rfl rfl (by decide) rfl rfl) ?_
  rintro r M' ⟨rfl, f1, f2⟩
  refine oRun_ok 2 rfl ?_
  refine g_put rfl rfl rfl rfl rfl rfl rfl ?_
  refine oRun_ok 3 rfl ?_
  refine g_iald 2 rfl rfl rfl (by decide) ?_
  refine g_iret rfl rfl rfl ?_
  have eM : M' K_MOD 0 = M K_MOD 0 := f2 K_MOD 0 (fun q => absurd q.1 (by decide))
  have eN : M' 32 0 = D K_M_now 0 := (f2 32 0 (fun q => absurd q.1 (by decide))).trans hN
  rw [oUp_k (by decide), eN]
  refine oQM.of (D' := D_keep D) rfl (oPs.up (oPs_row (k := K_M_image) (by decide) hD (f2.mono (fun k i q => Or.inr q.1)) (by rw [eM]) (by rw [eM]) (by rw [eM]) ?_)) ((f2.mono (fun k i q => by rw [q.1]; exact ⟨by decide, by decide⟩)).mdl (by decide))
  rw [f1, show M 32 0 = _ from hN, show M 33 0 = _ from hD.1 K_M_image (by decide)]
-- back
def s_back (D : oM) : Int32 × oM := if D K_MOD 0 3 = 0 then (vNO, D) else (D K_M_image 0 2, oSR D K_M_now (cpN (D K_M_image 0) (D K_M_now 0)))
theorem p_back (M D : oM) (hI : oI M D) : oCt 3 k_Oak_back [.inr (K_OAK, 0)] M (oQC (s_back D) M) := by
  obtain ⟨i1, i2⟩ := hI.img
  refine oCt.of (ls := [some (.inr (K_OAK, 0))]) mok_Oak_back rfl rfl ?_
  refine oRun_ok 2 rfl ?_
  refine g_if_ne rfl (fun h4 => ?_) (fun h4 => ?_)
  · obtain ⟨j1, j2, j3, j4⟩ := i2.resolve_left h4
    refine oRun_ok 4 rfl ?_
    refine g_callV rfl rfl rfl rfl rfl mok_Land_takeFrom (by decide) (c_Land_takeFrom _ 0 1 (by decide)) ?_
    rintro r M' ⟨rfl, f1, f2, f3, f4⟩
    refine oRun_ok 3 rfl ?_
    refine g_iret rfl rfl rfl ?_
    have eL : M' 1 0 4 = D K_M_image 0 2 := f1.2.1.trans j3.2.1
    rw [eL]
    have cg := fun j hj => (cpN_lt (f := D K_M_image 0) (g := D K_M_now 0) (j := j) hj)
    have ek : ∀ k ∈ [K_TEXT, K_TCOD, K_RBYT, K_ROW, K_RPL, K_SLOT, K_WAIT, K_OAK, K_READER], ∀ i, M' k i = M k i := fun k hk i => f4 k i (oLS_k hk)
    have dd : ∀ k, ¬ k = K_M_now → oSR D K_M_now (cpN (D K_M_image 0) (D K_M_now 0)) k = D k := fun k hk => oSR_ne hk
    refine oQC.of (D' := oSR D K_M_now (cpN (D K_M_image 0) (D K_M_now 0))) (if_neg (fun z => h4 (i1.symm.trans z))) ⟨?_, ?_, hI.tape.cg (by rw [ek _ (by decide)]) (by rw [ek _ (by decide)]) (by rw [dd _ (by decide)]) (by rw [dd _ (by decide)]), hI.sheet.cg (fun s hs => ⟨ek _ (by decide) s, ek _ (by decide) s⟩) (by rw [dd _ (by decide)]) (by rw [dd _ (by decide)]) (by rw [dd _ (by decide)]), hI.slot.cg (fun s hs => ⟨ek _ (by decide) s, ek _ (by decide) _, ek _ (by decide) _⟩) (by rw [dd _ (by decide)]) (by rw [dd _ (by decide)]) (by rw [dd _ (by decide)]) (by rw [dd _ (by decide)]), hI.wait.cg (by rw [ek _ (by decide)]) (by rw [ek _ (by decide)]) (by rw [dd _ (by decide)]) (by rw [dd _ (by decide)]), hI.con.cg (by rw [dd _ (by decide)]) (by rw [dd _ (by decide)])⟩ (f4.mono (fun k i q => oLS_cls q))
    · unfold I_land
      rw [oSR_at]
      exact ⟨oNOk_cg cg j2, oRL_cg cg j2 (oRL_take j2 j3 f1 f2 f3 (fun t => ⟨f4 _ _ (oLS_k (by decide)), f4 _ _ (oLS_k (by decide))⟩))⟩
    · unfold I_img
      rw [oSR_at, dd _ (by decide), dd _ (by decide), ek _ (by decide)]
      refine ⟨i1, Or.inr ⟨j1, j2, oRL_other (by decide) j2 f4 j3, ?_⟩⟩
      unfold cT
      rw [cg 3 (by decide)]
      exact Nat.le_refl _
  · refine oRun_ok 1 rfl ?_
    exact g_iret rfl rfl rfl (oQC.same hI (if_pos (i1.trans h4)))
theorem q_back (C M D : oM) (hI : oI C D) (hD : oPs D M) : oCt 3 k_Mod_back [.inr (K_MOD, 0)] M (oQM (s_back D) M) := by
  have e33 : M 33 0 = D K_M_image 0 := hD.1 K_M_image (by decide)
  have e3 : M 31 0 3 = D K_MOD 0 3 := hD.2.1
  refine oCt.of (ls := [some (.inr (K_MOD, 0))]) mok_Mod_back rfl rfl ?_
  refine oRun_ok 2 rfl ?_
  rw [e3]
  refine g_if_ne rfl (fun h4 => ?_) (fun h4 => ?_)
  · refine oRun_ok 4 rfl ?_
    refine g_callS rfl rfl rfl rfl mok_Mod_copyAll (by decide) (c_Mod_copyAll _ 33 32 rfl rfl (by decide) rfl rfl) ?_
    rintro r M' ⟨rfl, f1, f2⟩
    refine oRun_ok 3 rfl ?_
    refine g_iald 2 rfl rfl rfl (by decide) ?_
    refine g_iret rfl rfl rfl ?_
    rw [show M' 32 0 = _ from f1, cpN_lt (by decide), e33]
    refine oQM.row (k := K_M_now) (by decide) hD (if_neg h4) f2 ?_
    rw [f1, e33, show M 32 0 = _ from hD.now]
  · refine oRun_ok 1 rfl ?_
    exact g_iret rfl rfl rfl (oQM.same hD (if_pos h4))

