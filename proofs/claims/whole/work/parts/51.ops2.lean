/-! ===== move, seed, deedTold, set, deed ===== -/
theorem abs_far {a b : Int32} (h : a.toInt - b.toInt ≠ -2147483648 ∧ -2147483648 ≤ a.toInt - b.toInt ∧ a.toInt - b.toInt < 2147483648) : f_Math_abs (a - b) = f_Mod_size (b - a) := by
  have e : b - a = -(a - b) := by rw [Int32.neg_sub]
  have hs := iSub (a := a) (b := b) h.2
  rw [e]
  unfold f_Math_abs f_Mod_size
  have t0 : (0 : Int32).toInt = 0 := rfl
  have hn : (-(a - b)).toInt = -(a - b).toInt := iNeg (by rw [hs]; omega)
  by_cases z : 0 ≤ a - b
  · have z' := iLe.mp z
    rw [if_pos z]
    by_cases y : 0 ≤ -(a - b)
    · have y' := iLe.mp y
      rw [if_pos y]
      rw [iEq]
      omega
    · rw [if_neg y, Int32.neg_neg]
  · have z' := iLt.mp (Int32.not_le.mp z)
    rw [if_neg z, if_pos (iLe.mpr (by omega))]
theorem far_eq {a b x y : Int32} (ha : inR a (-99) 99) (hb : inR b (-99) 99) (hx : inR x (-99) 99) (hy : inR y (-99) 99) : f_Oak_farApart a b x y = f_Mod_size (x - a) + f_Mod_size (y - b) := by
  have h1 := ha.1
  have h2 := ha.2
  have h3 := hb.1
  have h4 := hb.2
  have h5 := hx.1
  have h6 := hx.2
  have h7 := hy.1
  have h8 := hy.2
  unfold f_Oak_farApart
  rw [abs_far (by omega), abs_far (by omega)]
def n_move (N : Nat → Int32) (s : Nat) (x y : Int32) : Nat → Int32 := upd (upd N (4 + 2 * s) x) (4 + 2 * s + 1) y
def s_move (D : oM) (s x y : Int32) : Int32 × oM := if f_Oak_isWithin s 0 (D K_M_now 0 1 - 1) = 0 then (vBAD, D) else if f_Oak_isStonePlace x y = 0 then (vBAD, D) else (f_Mod_size (x - D K_M_now 0 (4 + 2 * s.toNatClampNeg)) + f_Mod_size (y - D K_M_now 0 (4 + 2 * s.toNatClampNeg + 1)), oSR D K_M_now (n_move (D K_M_now 0) s.toNatClampNeg x y))
theorem n_move_s {N : Nat → Int32} {s : Nat} {x y : Int32} (hs : s < 8) : ∀ j, j < 4 ∨ 20 ≤ j → n_move N s x y j = N j := by
  intro j hj
  unfold n_move
  repeat (first | rw [upd_ne (by omega)] | rw [upd_eq])
theorem oI.move {M D : oM} {s : Nat} {x y : Int32} (hI : oI M D) (hs : s < cS (D K_M_now 0)) (hx : inR x (-99) 99 ∧ inR y (-99) 99) : oNOk (n_move (D K_M_now 0) s x y) ∧ oRL (oUp (oUp M K_STX 0 s x) K_STY 0 s y) (n_move (D K_M_now 0) s x y) 0 := by
  obtain ⟨hS, s8⟩ := oNS hI.ok
  have hm := n_move_s (N := D K_M_now 0) (x := x) (y := y) (s := s) (by omega)
  have c1 : cS (n_move (D K_M_now 0) s x y) = cS (D K_M_now 0) := by unfold cS; rw [hm 1 (by omega)]
  refine ⟨oSt_ok hI.ok (fun j hj => hm j (by omega)) (by rw [hm 1 (by omega)]; exact hI.ok.1) (fun i hi => ?_), oSt_rl hI.ok hI.rl (fun j hj => hm j (by omega)) ((oFr.rf.up ⟨rfl, Or.inr (Or.inl rfl)⟩).up ⟨rfl, Or.inr (Or.inr rfl)⟩) (by rw [hm 1 (by omega)]; exact hI.st) rfl rfl (by rw [hm 0 (by omega)]; exact hI.zz) (fun i hi => ?_)⟩
  · rw [c1] at hi
    unfold n_move
    by_cases z : i = s
    · subst z
      repeat (first | rw [upd_ne (by omega)] | rw [upd_eq])
      exact hx
    · repeat (first | rw [upd_ne (by omega)] | rw [upd_eq])
      exact hI.ok.2.2.2.1 i hi
  · rw [c1] at hi
    obtain ⟨a, b⟩ := hI.sxy hi
    unfold n_move
    rw [oUp_k (k := K_STY) (k' := K_STX) (by decide), oUp_at, oUp_at]
    by_cases z : i = s
    · subst z
      repeat (first | rw [upd_ne (by omega)] | rw [upd_eq])
      exact ⟨if_pos rfl, if_pos rfl⟩
    · repeat (first | rw [upd_ne (by omega)] | rw [upd_eq])
      exact ⟨(if_neg z).trans a, (if_neg z).trans b⟩
theorem p_move (M D : oM) (s x y : Int32) (hI : oI M D) : oCt 3 k_Oak_move [.inr (K_OAK, 0), .inl s, .inl x, .inl y] M (oQC (s_move D s x y) M) := by
  obtain ⟨hS, s8⟩ := oNS hI.ok
  refine oCt.of (ls := [some (.inr (K_OAK, 0)), some (.inl s), some (.inl x), some (.inl y), none]) mok_Oak_move rfl rfl ?_
  refine oRun_ok 3 rfl ?_
  refine g_callV rfl rfl rfl rfl rfl mok_Land_hasStone (by decide) (c_Land_hasStone _ 0 _) ?_
  rintro r5 M5 ⟨rfl, e⟩; rw [e]
  rw [hI.st]
  refine g_if_eq rfl (fun h8 => ?_) (fun h8 => ?_)
  · refine oRun_ok 1 rfl ?_
    exact g_iret rfl rfl rfl (oQC.same hI (if_pos h8))
  · refine oRun_ok 2 rfl ?_
    refine g_callS rfl rfl rfl rfl mok_Oak_isStonePlace (by decide) (c_Oak_isStonePlace _ _ _) ?_
    rintro r13 M13 ⟨rfl, e⟩; rw [e]
    refine g_if_ne rfl (fun h16 => ?_) (fun h16 => ?_)
    · obtain ⟨i, hi, hi8, rfl, ei⟩ := oHasS hI h8
      obtain ⟨a, b⟩ := hI.sxy hi
      obtain ⟨r1, r2⟩ := hI.ok.2.2.2.1 i hi
      have hx := spot_in h16
      refine oRun_ok 4 rfl ?_
      refine g_iald i rfl rfl rfl hi8 ?_
      refine oRun_ok 4 rfl ?_
      refine g_iald i rfl rfl rfl hi8 ?_
      refine oRun_ok 2 rfl ?_
      refine g_callS rfl rfl rfl rfl mok_Oak_farApart (by decide) (c_Oak_farApart _ _ _ _ _) ?_
      rintro r42 M42 ⟨rfl, e⟩; rw [e]
      refine oRun_ok 6 rfl ?_
      refine g_callV rfl rfl rfl rfl rfl mok_Land_putStone (by decide) (c_Land_putStone _ 0 i (cS (D K_M_now 0)) x y (hI.st.trans hS) hi s8) ?_
      rintro r54 M54 ⟨rfl, e⟩; rw [e]
      refine oRun_ok 1 rfl ?_
      refine g_iret rfl rfl rfl ?_
      rw [show M 2 0 i = _ from a, show M 3 0 i = _ from b, far_eq r1 r2 hx.1 hx.2]
      obtain ⟨k1, k2⟩ := hI.move hi hx
      refine oQC.land hI ?_ ((oFr.rf.up (oSt_ld ⟨rfl, Or.inr (Or.inl rfl)⟩)).up (oSt_ld ⟨rfl, Or.inr (Or.inr rfl)⟩)) k1 k2 ?_
      · unfold s_move
        rw [if_neg h8, if_neg h16, ei]
      · unfold cT
        rw [n_move_s hi8 3 (by omega)]
        exact Nat.le_refl _
    · refine oRun_ok 1 rfl ?_
      exact g_iret rfl rfl rfl (oQC.same hI ((if_neg h8).trans (if_pos h16)))
theorem q_move (C M D : oM) (s x y : Int32) (hI : oI C D) (hD : oPs D M) : oCt 3 k_Mod_move [.inr (K_MOD, 0), .inl s, .inl x, .inl y] M (oQM (s_move D s x y) M) := by
  have hN := hD.now
  refine oCt.of (ls := [some (.inr (K_MOD, 0)), some (.inl s), some (.inl x), some (.inl y), none]) mok_Mod_move rfl rfl ?_
  refine oRun_ok 2 rfl ?_
  refine g_callV rfl rfl rfl rfl rfl mok_Mod_isStone (by decide) (c_Mod_isStone _ _) ?_
  rintro r2 M2 ⟨rfl, e⟩; rw [e]
  rw [hN]
  refine g_if_eq rfl (fun h5 => ?_) (fun h5 => ?_)
  · refine oRun_ok 1 rfl ?_
    exact g_iret rfl rfl rfl (oQM.same hD (if_pos h5))
  · refine oRun_ok 2 rfl ?_
    refine g_callS rfl rfl rfl rfl mok_Mod_isSpot (by decide) (c_Mod_isSpot _ _ _) ?_
    rintro r10 M10 ⟨rfl, e⟩; rw [e]
    refine g_if_ne rfl (fun h13 => ?_) (fun h13 => ?_)
    · obtain ⟨i, hi, hi8, rfl, ei⟩ := oHasS hI h5
      have h13 : ¬ f_Oak_isStonePlace x y = 0 := h13
      refine oRun_ok 8 rfl ?_
      refine g_iald (4 + 2 * i) rfl rfl (by simp only [L4, L2, nI_times, nI_plus]) (by omega) ?_
      refine oRun_ok 1 rfl ?_
      refine g_callS rfl rfl rfl rfl mok_Mod_size (by decide) (c_Mod_size _ _) ?_
      rintro r31 M31 ⟨rfl, e⟩; rw [e]
      refine oRun_ok 10 rfl ?_
      refine g_iald (4 + 2 * i + 1) rfl rfl (by simp only [L4, L2, L1, nI_times, nI_plus]) (by omega) ?_
      refine oRun_ok 1 rfl ?_
      refine g_callS rfl rfl rfl rfl mok_Mod_size (by decide) (c_Mod_size _ _) ?_
      rintro r48 M48 ⟨rfl, e⟩; rw [e]
      refine oRun_ok 10 rfl ?_
      refine g_iast (4 + 2 * i) rfl rfl (by simp only [L4, L2, nI_times, nI_plus]) (by omega) ?_
      refine oRun_ok 10 rfl ?_
      refine g_iast (4 + 2 * i + 1) rfl rfl (by simp only [L4, L2, L1, nI_times, nI_plus]) (by omega) ?_
      refine oRun_ok 1 rfl ?_
      refine g_iret rfl rfl rfl ?_
      refine oQM.row (k := K_M_now) (f := n_move (D K_M_now 0) i x y) (by decide) hD ?_ ((oFr.rf.up ⟨rfl, rfl⟩).up ⟨rfl, rfl⟩) ?_
      · unfold s_move
        rw [if_neg h5, if_neg h13, ei, ← hN]
      · rw [oUp_upd, oUp_upd, ← hN]
        rfl
    · refine oRun_ok 1 rfl ?_
      exact g_iret rfl rfl rfl (oQM.same hD ((if_neg h5).trans (if_pos h13)))
-- seed
def s_seed (D : oM) (v : Int32) : Int32 × oM := (D K_M_now 0 0, oSR D K_M_now (upd (D K_M_now 0) 0 v))
theorem p_seed (M D : oM) (v : Int32) (hI : oI M D) : oCt 3 k_Oak_seed [.inr (K_OAK, 0), .inl v] M (oQC (s_seed D v) M) := by
  refine oCt.of (ls := [some (.inr (K_OAK, 0)), some (.inl v), none]) mok_Oak_seed rfl rfl ?_
  refine oRun_ok 9 rfl ?_
  refine g_iret rfl rfl rfl ?_
  rw [show M 1 0 7 = _ from hI.zz]
  have hm : ∀ j, ¬ j = 0 → upd (D K_M_now 0) 0 v j = D K_M_now 0 j := fun j hj => upd_ne hj
  have c1 : cS (upd (D K_M_now 0) 0 v) = cS (D K_M_now 0) := by unfold cS; rw [hm 1 (by omega)]
  have hok := hI.ok
  have e2 : cD (upd (D K_M_now 0) 0 v) = cD (D K_M_now 0) := by unfold cD; rw [hm 2 (by omega)]
  have e3 : cT (upd (D K_M_now 0) 0 v) = cT (D K_M_now 0) := by unfold cT; rw [hm 3 (by omega)]
  refine oQC.land hI (N' := upd (D K_M_now 0) 0 v) rfl (oFr.rf.up (oSt_ld ⟨rfl, Or.inl rfl⟩)) ?_ (oSt_rl hI.ok hI.rl (fun j hj => hm j (by omega)) (oFr.rf.up ⟨rfl, Or.inl rfl⟩) ?_ (oUp_j (by decide)) (oUp_j (by decide)) ?_ (fun i hi => ?_)) (by omega)
  · refine ⟨by rw [hm 1 (by omega)]; exact hok.1, by rw [hm 2 (by omega)]; exact hok.2.1, by rw [hm 3 (by omega)]; exact hok.2.2.1, fun i hi => ?_, fun d hd => ?_, fun t ht => ?_⟩
    · rw [c1] at hi
      rw [hm _ (by omega), hm _ (by omega)]
      exact hok.2.2.2.1 i hi
    · rw [e2] at hd
      have h := hok.2.2.2.2.1 d hd
      have ec : cC (upd (D K_M_now 0) 0 v) d = cC (D K_M_now 0) d := by unfold cC; rw [hm _ (by omega)]
      unfold oDOk at h ⊢
      rw [ec, hm (20 + 35 * d) (by omega), hm (20 + 35 * d + 1) (by omega), hm (20 + 35 * d + 2) (by omega), hm (20 + 35 * d + 3) (by omega), hm (20 + 35 * d + 4) (by omega)]
      refine ⟨h.1, h.2.1, h.2.2.1, h.2.2.2.1, h.2.2.2.2.1, fun j hj => ?_⟩
      rw [hm _ (by omega), hm _ (by omega), hm _ (by omega)]
      exact h.2.2.2.2.2 j hj
    · rw [e3] at ht
      have h := hok.2.2.2.2.2 t ht
      have ef : (fun k => upd (D K_M_now 0) 0 v (188 + 96 * t + k)) = (fun k => D K_M_now 0 (188 + 96 * t + k)) := by
        funext k
        exact hm _ (by omega)
      unfold oTOk tN tK at h ⊢
      rw [hm (160 + 2 * t) (by omega), ef]
      exact h
  · rw [hm 1 (by omega)]
    exact (oUp_j (by decide)).trans hI.st
  · rw [upd_eq]
    exact oUp_self
  · rw [c1] at hi
    rw [hm _ (by omega), hm _ (by omega), oUp_k (by decide), oUp_k (by decide)]
    exact hI.sxy hi
theorem q_seed (C M D : oM) (v : Int32) (hI : oI C D) (hD : oPs D M) : oCt 3 k_Mod_seed [.inr (K_MOD, 0), .inl v] M (oQM (s_seed D v) M) := by
  have hN := hD.now
  refine oCt.of (ls := [some (.inr (K_MOD, 0)), some (.inl v), none]) mok_Mod_seed rfl rfl ?_
  refine oRun_ok 3 rfl ?_
  refine g_iald 0 rfl rfl rfl (by decide) ?_
  refine oRun_ok 5 rfl ?_
  refine g_iast 0 rfl rfl rfl (by decide) ?_
  refine oRun_ok 1 rfl ?_
  refine g_iret rfl rfl rfl ?_
  rw [show M 32 0 = _ from hN]
  exact oQM.row (k := K_M_now) (f := upd (D K_M_now 0) 0 v) (by decide) hD rfl (oFr.rf.up ⟨rfl, rfl⟩) (by rw [oUp_upd, ← hN])

