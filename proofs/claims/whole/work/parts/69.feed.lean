/-! ===== feed, near ===== -/
theorem tb_ext {a b : Int32} (h : ∀ j, j < 32 → tb a j = tb b j) : a = b := by
  apply Int32.toBitVec_inj.mp
  apply BitVec.eq_of_getLsbD_eq
  intro i hi
  exact h i hi
theorem tb_sar {x s j : Nat} (v : Int32) (hs : s < 32) (hj : s + j < 32) : tb (v >>> (nI s &&& 31)) j = tb v (s + j) := by
  show (v.toBitVec.sshiftRight' ((nI s &&& 31).toBitVec.smod 32)).getLsbD j = _
  rw [show (nI s &&& 31).toBitVec.smod 32 = BitVec.ofNat 32 s from shr_amt ⟨s, hs⟩]
  show (v.toBitVec.sshiftRight (BitVec.ofNat 32 s).toNat).getLsbD j = _
  rw [show (BitVec.ofNat 32 s).toNat = s by simp; omega, BitVec.getLsbD_sshiftRight, if_pos hj]
  rw [decide_eq_false (by omega)]
  rfl
theorem ushr_amt : ∀ s : Fin 32, ((nI s.val).toUInt32 &&& Int32.toUInt32 31).toBitVec % 32 = BitVec.ofNat 32 s.val := by decide +kernel
theorem tb_shrl {s j : Nat} (v : Int32) (hs : s < 32) : tb (oUshr v (nI s)) j = tb v (s + j) := by
  show (v.toBitVec >>> (((nI s).toUInt32 &&& Int32.toUInt32 31).toBitVec % 32)).getLsbD j = _
  rw [ushr_amt ⟨s, hs⟩]
  show (v.toBitVec >>> (BitVec.ofNat 32 s).toNat).getLsbD j = _
  rw [show (BitVec.ofNat 32 s).toNat = s by simp; omega, BitVec.getLsbD_ushiftRight]
  rfl
theorem tb_255 : ∀ j : Fin 32, tb 255 j.val = decide (j.val < 8) := by decide +kernel
theorem byte_eq (v : Int32) {s : Nat} (hs : s ≤ 24) : oUshr v (nI s) &&& 255 = (v >>> (nI s &&& 31)) &&& 255 := by
  apply tb_ext
  intro j hj
  rw [tb_and, tb_and, tb_255 ⟨j, hj⟩]
  by_cases h : j < 8
  · rw [tb_shrl v (by omega), tb_sar (x := 0) v (by omega) (by omega)]
  · rw [decide_eq_false h, Bool.and_false, Bool.and_false]
theorem byte_rng (v : Int32) : inR (v &&& 255) 0 255 := by
  obtain ⟨n, hn, rfl⟩ := of32 v
  rw [show (255 : Int32) = nI 255 from rfl, nI_and]
  have : n &&& 255 ≤ 255 := Nat.and_le_right
  exact inR_n (m := 255) this (by decide)
/-- byte k of a word -/
def sB (w : Int32) (k : Nat) : Int32 := (w >>> (nI (24 - 8 * k) &&& 31)) &&& 255
theorem c_Reader_addFour (M : oM) (w : Int32) (n : Nat) (hn : M K_READER 0 1 = nI n) (h : n + 4 ≤ 96) : oCt 0 k_Reader_addFour [.inr (K_READER, 0), .inl w] M (fun r M' => r = none ∧ M' K_READER 0 1 = nI (n + 4) ∧ (∀ j, M' K_RBYT 0 j = if n ≤ j ∧ j < n + 4 then sB w (j - n) else M K_RBYT 0 j) ∧ oFr (fun k i => k = K_READER ∨ k = K_RBYT) M M' ∧ ∀ j, ¬ j = 1 → M' K_READER 0 j = M K_READER 0 j) := by
  refine oCt.of (ls := [some (.inr (K_READER, 0)), some (.inl w), none]) mok_Reader_addFour rfl rfl ?_
  generalize hQ : (fun (r : Option Int32) (M' : oM) => r = none ∧ M' K_READER 0 1 = nI (n + 4) ∧ (∀ j, M' K_RBYT 0 j = if n ≤ j ∧ j < n + 4 then sB w (j - n) else M K_RBYT 0 j) ∧ oFr (fun k i => k = K_READER ∨ k = K_RBYT) M M' ∧ ∀ j, ¬ j = 1 → M' K_READER 0 j = M K_READER 0 j) = Q
  have loop : ∀ (q k : Nat) (M1 : oM), k + q = 4 → M1 K_READER 0 1 = nI (n + k) → (∀ j, M1 K_RBYT 0 j = if n ≤ j ∧ j < n + k then sB w (j - n) else M K_RBYT 0 j) → oFr (fun k i => k = K_READER ∨ k = K_RBYT) M M1 → (∀ j, ¬ j = 1 → M1 K_READER 0 j = M K_READER 0 j) → oG k_Reader_addFour 0 3 [some (.inr (K_READER, 0)), some (.inl w), some (.inl (nI 24 - nI (8 * k)))] [] M1 Q := by
    intro q
    induction q with
    | zero =>
      intro k M1 hk h1 h2 hF h3
      obtain rfl : k = 4 := by omega
      refine oRun_ok 1 rfl ?_
      refine g_if_lt rfl (fun _ => ?_) (fun z => absurd (by decide) z)
      refine g_ret rfl rfl ?_
      rw [← hQ]
      exact ⟨rfl, h1, h2, hF, h3⟩
    | succ q ih =>
      intro k M1 hk h1 h2 hF h3
      rw [nIsub (a := 24) (b := 8 * k) (by omega)]
      refine oRun_ok 1 rfl ?_
      refine g_if_lt rfl (fun z => absurd z (nI_pos (by omega))) (fun _ => ?_)
      refine oRun_ok 3 rfl ?_
      rw [show M1 22 0 1 = nI (n + k) from h1]
      refine g_ic_ge rfl (fun z => ?_) (fun _ => ?_)
      · have z : nI 96 ≤ nI (n + k) := z
        rw [nIle (by omega) (by omega)] at z
        omega
      refine oRun_ok 9 rfl ?_
      refine g_iast (n + k) rfl rfl h1 (by omega) ?_
      refine oRun_ok 8 rfl ?_
      rw [show oUp M1 23 0 (n + k) (oUshr w (nI (24 - 8 * k)) &&& 255) 22 0 1 + 1 = nI (n + (k + 1)) by rw [oUp_k (by decide), show M1 22 0 1 = nI (n + k) from h1, nI_1]; rfl]
      rw [show nI (24 - 8 * k) + -8 = nI 24 - nI (8 * (k + 1)) by
        rw [← nIsub (a := 24) (b := 8 * k) (by omega), ← Int32.sub_eq_add_neg, show (8 : Int32) = nI 8 from rfl, Int32.sub_sub, nI_plus]
        rfl]
      refine ih (k + 1) _ (by omega) oUp_self (fun j => ?_) ((hF.up (Or.inr rfl)).up (Or.inl rfl)) (fun j hj => ?_)
      · rw [oUp_k (by decide), oUp_at]
        by_cases z : j = n + k
        · subst z
          refine (if_pos rfl).trans ?_
          rw [if_pos (by omega), byte_eq w (by omega)]
          unfold sB
          rw [show n + k - n = k by omega]
        · refine (if_neg z).trans ?_
          rw [h2 j]
          by_cases y : n ≤ j ∧ j < n + k
          · rw [if_pos y, if_pos (by omega)]
          · rw [if_neg y, if_neg (by omega)]
      · rw [oUp_j hj, oUp_k (by decide)]
        exact h3 j hj
  refine oRun_ok 2 rfl ?_
  refine loop 4 0 M rfl hn (fun j => ?_) oFr.rf (fun j hj => rfl)
  rw [if_neg (by omega)]
def sW3 (a b c : Int32) (k : Nat) : Int32 := sB (if k < 4 then a else if k < 8 then b else c) (k % 4)
def f_feed (f : Nat → Int32) (n : Nat) (a b c : Int32) (m : Nat) : Nat → Int32 := fun j => if n ≤ j ∧ j < n + m then sW3 a b c (j - n) else f j
def s_feed (D : oM) (a b c : Int32) : Int32 × oM := if 84 < (D K_MOD 0 14).toNatClampNeg then (vFULL, D) else (nI ((D K_MOD 0 14).toNatClampNeg + 12), oUp (oSR D K_M_tape (f_feed (D K_M_tape 0) (D K_MOD 0 14).toNatClampNeg a b c 12)) K_MOD 0 14 (nI ((D K_MOD 0 14).toNatClampNeg + 12)))
theorem p_feed (M D : oM) (a b c : Int32) (hI : oI M D) : oCt 3 k_Oak_feed [.inr (K_OAK, 0), .inl a, .inl b, .inl c] M (oQC (s_feed D a b c) M) := by
  obtain ⟨n, hn, t1, t2, t3⟩ := hI.tape
  have cn : (D K_MOD 0 14).toNatClampNeg = n := by rw [t2, nIc (by omega)]
  refine oCt.of (ls := [some (.inr (K_OAK, 0)), some (.inl a), some (.inl b), some (.inl c)]) mok_Oak_feed rfl rfl ?_
  refine oRun_ok 6 rfl ?_
  rw [show M 22 0 1 = nI n from t1, show (12 : Int32) = nI 12 from rfl, nI_plus, show (96 : Int32) = nI 96 from rfl]
  refine g_ic_le rfl (fun h12 => ?_) (fun h12 => ?_)
  · rw [nIle (by omega) (by omega)] at h12
    refine oRun_ok 3 rfl ?_
    refine g_callV rfl rfl rfl rfl rfl mok_Reader_addFour (by decide) (c_Reader_addFour _ a n t1 (by omega)) ?_
    rintro r1 M1 ⟨rfl, f1, f2, f3, f4⟩
    refine oRun_ok 3 rfl ?_
    refine g_callV rfl rfl rfl rfl rfl mok_Reader_addFour (by decide) (c_Reader_addFour _ b (n + 4) f1 (by omega)) ?_
    rintro r2 M2 ⟨rfl, g1, g2, g3, g4⟩
    refine oRun_ok 3 rfl ?_
    refine g_callV rfl rfl rfl rfl rfl mok_Reader_addFour (by decide) (c_Reader_addFour _ c (n + 4 + 4) g1 (by omega)) ?_
    rintro r3 M3 ⟨rfl, k1, k2, k3, k4⟩
    refine oRun_ok 3 rfl ?_
    refine g_iret rfl rfl rfl ?_
    rw [show M3 22 0 1 = nI (n + 12) from k1]
    have hF := (f3.tr g3).tr k3
    have ek : ∀ k, ¬ (k = K_READER ∨ k = K_RBYT) → ∀ i, M3 k i = M k i := fun k hk i => hF k i hk
    have kp : oKp M M3 := fun k hk i => ek k ((by decide : ∀ k ∈ oRLk, ¬ (k = K_READER ∨ k = K_RBYT)) k hk) i
    have dd : ∀ k, ¬ (k = K_M_tape ∨ k = K_MOD) → oUp (oSR D K_M_tape (f_feed (D K_M_tape 0) n a b c 12)) K_MOD 0 14 (nI (n + 12)) k = D k := fun k hk => by rw [oUp_k (fun z => hk (Or.inr z)), oSR_ne (fun z => hk (Or.inl z))]
    have dm : ∀ j, ¬ j = 14 → oUp (oSR D K_M_tape (f_feed (D K_M_tape 0) n a b c 12)) K_MOD 0 14 (nI (n + 12)) K_MOD 0 j = D K_MOD 0 j := fun j hj => by rw [oUp_j hj, oSR_ne (by decide)]
    have by12 : ∀ j, M3 K_RBYT 0 j = f_feed (M K_RBYT 0) n a b c 12 j := by
      intro j
      rw [k2 j]
      unfold f_feed sW3
      by_cases z1 : n + 4 + 4 ≤ j ∧ j < n + 4 + 4 + 4
      · rw [if_pos z1, if_pos (by omega), if_neg (by omega), if_neg (by omega), show j - (n + 4 + 4) = (j - n) % 4 by omega]
      · rw [if_neg z1, g2 j]
        by_cases z2 : n + 4 ≤ j ∧ j < n + 4 + 4
        · rw [if_pos z2, if_pos (by omega), if_neg (by omega), if_pos (by omega), show j - (n + 4) = (j - n) % 4 by omega]
        · rw [if_neg z2, f2 j]
          by_cases z3 : n ≤ j ∧ j < n + 4
          · rw [if_pos z3, if_pos (by omega), if_pos (by omega), show j - n = (j - n) % 4 by omega, Nat.mod_mod]
          · rw [if_neg z3, if_neg (by omega)]
    refine oQC.of (D' := oUp (oSR D K_M_tape (f_feed (D K_M_tape 0) n a b c 12)) K_MOD 0 14 (nI (n + 12))) ((if_neg (by rw [cn]; omega)).trans (by rw [cn])) ⟨hI.1.cg kp (by rw [dd _ (by decide)]), hI.img.cg kp (by rw [ek _ (by decide)]) (by rw [dd _ (by decide)]) (by rw [dd _ (by decide)]) (dm 3 (by decide)), ?_, hI.sheet.cg (fun s hs => ⟨ek _ (by decide) _, ek _ (by decide) _⟩) (by rw [dd _ (by decide)]) (by rw [dd _ (by decide)]) (by rw [dd _ (by decide)]), hI.slot.cg (fun s hs => ⟨ek _ (by decide) _, ek _ (by decide) _, ek _ (by decide) _⟩) (by rw [dd _ (by decide)]) (by rw [dd _ (by decide)]) (by rw [dd _ (by decide)]) (by rw [dd _ (by decide)]), hI.wait.cg (by rw [ek _ (by decide)]) (by rw [ek _ (by decide)]) (dm 40 (by decide)) (by rw [dd _ (by decide)]), hI.con.cg (by rw [dd _ (by decide)]) (by rw [dd _ (by decide)])⟩ (hF.mono (fun k i q => by
      show k < 31
      rcases q with q | q <;> rw [q] <;> decide))
    refine ⟨n + 12, by omega, k1, oUp_self, fun j hj => ?_⟩
    rw [by12 j, oUp_k (by decide), oSR_at]
    unfold f_feed
    by_cases z : n ≤ j ∧ j < n + 12
    · rw [if_pos z, if_pos z]
      exact ⟨rfl, byte_rng _⟩
    · rw [if_neg z, if_neg z]
      exact t3 j (by omega)
  · rw [nIle (by omega) (by omega)] at h12
    refine oRun_ok 1 rfl ?_
    exact g_iret rfl rfl rfl (oQC.same hI (if_pos (by rw [cn]; omega)))
theorem q_feed (C M D : oM) (a b c : Int32) (hI : oI C D) (hD : oPs D M) : oCt 3 k_Mod_feed [.inr (K_MOD, 0), .inl a, .inl b, .inl c] M (oQM (s_feed D a b c) M) := by
  obtain ⟨n, hn, t1, t2, t3⟩ := hI.tape
  have cn : (D K_MOD 0 14).toNatClampNeg = n := by rw [t2, nIc (by omega)]
  have hM : M 31 0 14 = nI n := hD.2.2.1.trans t2
  have eT : M K_M_tape 0 = D K_M_tape 0 := hD.1 _ (by decide)
  refine oCt.of (ls := [some (.inr (K_MOD, 0)), some (.inl a), some (.inl b), some (.inl c), none, none]) mok_Mod_feed rfl rfl ?_
  refine oRun_ok 5 rfl ?_
  rw [hM, show (12 : Int32) = nI 12 from rfl, nI_plus, show (96 : Int32) = nI 96 from rfl]
  refine g_ic_le rfl (fun h9 => ?_) (fun h9 => ?_)
  · rw [nIle (by omega) (by omega)] at h9
    refine oRun_ok 2 rfl ?_
    have fin : s_feed D a b c = (nI (n + 12), oUp (oSR D K_M_tape (f_feed (D K_M_tape 0) n a b c 12)) K_MOD 0 14 (nI (n + 12))) := (if_neg (by rw [cn]; omega)).trans (by rw [cn])
    have loop : ∀ (q k : Nat) (M1 : oM) (x5 : Option oV), k + q = 12 → M1 K_M_tape 0 = f_feed (D K_M_tape 0) n a b c k → oFr (oKi K_M_tape 0) M M1 → oG k_Mod_feed 3 18 [some (.inr (K_MOD, 0)), some (.inl a), some (.inl b), some (.inl c), some (.inl (nI k)), x5] [] M1 (oQM (s_feed D a b c) M) := by
      intro q
      induction q with
      | zero =>
        intro k M1 x5 hk h1 hF
        obtain rfl : k = 12 := by omega
        have e0 : M1 31 0 = M 31 0 := hF 31 0 (fun q => absurd q.1 (by decide))
        refine oRun_ok 2 rfl ?_
        refine g_ic_ge rfl (fun _ => ?_) (fun z => absurd (Int32.le_refl _) z)
        refine oRun_ok 8 rfl ?_
        rw [e0, hM, show (12 : Int32) = nI 12 from rfl, nI_plus, oUp_self]
        refine g_iret rfl rfl rfl (oQM.of fin (oPs.up (oPs_row (k := K_M_tape) (by decide) hD (hF.mono (fun k i q => Or.inr q.1)) (by rw [show M1 K_MOD 0 = _ from e0]) (by rw [show M1 K_MOD 0 = _ from e0]) (by rw [show M1 K_MOD 0 = _ from e0]) h1)) ((hF.mono (fun k i q => by rw [q.1]; exact ⟨by decide, by decide⟩)).mdl (by decide)))
      | succ q ih =>
        intro k M1 x5 hk h1 hF
        have e0 : M1 31 0 = M 31 0 := hF 31 0 (fun q => absurd q.1 (by decide))
        refine oRun_ok 2 rfl ?_
        refine g_ic_ge rfl (fun z => ?_) (fun _ => ?_)
        · have z : nI 12 ≤ nI k := z
          rw [nIle (by omega) (by omega)] at z
          omega
        have join : ∀ w, w = (if k < 4 then a else if k < 8 then b else c) → oG k_Mod_feed 3 47 [some (.inr (K_MOD, 0)), some (.inl a), some (.inl b), some (.inl c), some (.inl (nI k)), x5] [.inl w] M1 (oQM (s_feed D a b c) M) := by
          intro w hw
          refine oRun_ok 18 rfl ?_
          rw [e0, hM, nI_plus, show (24 : Int32) - 8 * oRem (nI k) 4 = nI (24 - 8 * (k % 4)) by rw [L4, nIrem (by omega) (by decide) (by decide), show (8 : Int32) = nI 8 from rfl, nI_times, L24, nIsub (by omega)]]
          refine g_iast (n + k) rfl rfl rfl (by omega) ?_
          refine oRun_ok 2 rfl ?_
          rw [nI_1]
          refine ih (k + 1) _ _ (by omega) ?_ (hF.up ⟨rfl, rfl⟩)
          rw [oUp_upd, h1]
          funext j
          unfold f_feed
          by_cases z : j = n + k
          · rw [z, upd_eq, if_pos (by omega), show n + k - n = k by omega]
            unfold sW3
            rw [← hw]
            rfl
          · rw [upd_ne z]
            by_cases y : n ≤ j ∧ j < n + k
            · rw [if_pos y, if_pos (by omega)]
            · rw [if_neg y, if_neg (by omega)]
        refine oRun_ok 2 rfl ?_
        refine g_ic_ge rfl (fun z => ?_) (fun z => ?_)
        · have z : nI 4 ≤ nI k := z
          rw [nIle (by omega) (by omega)] at z
          refine oRun_ok 2 rfl ?_
          refine g_ic_ge rfl (fun z2 => ?_) (fun z2 => ?_)
          · have z2 : nI 8 ≤ nI k := z2
            rw [nIle (by omega) (by omega)] at z2
            refine oRun_ok 1 rfl ?_
            exact join c (by rw [if_neg (by omega), if_neg (by omega)])
          · have z2 : ¬ nI 8 ≤ nI k := z2
            rw [nIle (by omega) (by omega)] at z2
            refine oRun_ok 2 rfl ?_
            exact join b (by rw [if_neg (by omega), if_pos (by omega)])
        · have z : ¬ nI 4 ≤ nI k := z
          rw [nIle (by omega) (by omega)] at z
          refine oRun_ok 2 rfl ?_
          exact join a (by rw [if_pos (by omega)])
    refine loop 12 0 M _ rfl ?_ oFr.rf
    rw [eT]
    funext j
    unfold f_feed
    rw [if_neg (by omega)]
  · rw [nIle (by omega) (by omega)] at h9
    refine oRun_ok 1 rfl ?_
    exact g_iret rfl rfl rfl (oQM.same hD (if_pos (by rw [cn]; omega)))

