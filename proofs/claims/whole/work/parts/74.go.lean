/-! ===== the model's reader ===== -/
def oMd (M M1 : oM) (nt fr tk vl en : Int32) : Prop := M1 K_MOD 0 15 = nt ∧ M1 K_MOD 0 16 = fr ∧ M1 K_MOD 0 17 = tk ∧ M1 K_MOD 0 18 = vl ∧ M1 K_MOD 0 19 = en ∧ (∀ j, ¬ (j = 15 ∨ j = 16 ∨ j = 17 ∨ j = 18 ∨ j = 19) → M1 K_MOD 0 j = M K_MOD 0 j) ∧ oFr (oKs K_MOD) M M1
theorem oMd.rf (M : oM) : oMd M M (M K_MOD 0 15) (M K_MOD 0 16) (M K_MOD 0 17) (M K_MOD 0 18) (M K_MOD 0 19) := ⟨rfl, rfl, rfl, rfl, rfl, fun _ _ => rfl, oFr.rf⟩
theorem oMd.nt {M M1 : oM} {a b c d e v : Int32} (h : oMd M M1 a b c d e) : oMd M (oUp M1 K_MOD 0 15 v) v b c d e := ⟨oUp_self, (oUp_j (by decide)).trans h.2.1, (oUp_j (by decide)).trans h.2.2.1, (oUp_j (by decide)).trans h.2.2.2.1, (oUp_j (by decide)).trans h.2.2.2.2.1, fun j hj => (oUp_j (fun z => hj (Or.inl z))).trans (h.2.2.2.2.2.1 j hj), h.2.2.2.2.2.2.up rfl⟩
theorem oMd.fr {M M1 : oM} {a b c d e v : Int32} (h : oMd M M1 a b c d e) : oMd M (oUp M1 K_MOD 0 16 v) a v c d e := ⟨(oUp_j (by decide)).trans h.1, oUp_self, (oUp_j (by decide)).trans h.2.2.1, (oUp_j (by decide)).trans h.2.2.2.1, (oUp_j (by decide)).trans h.2.2.2.2.1, fun j hj => (oUp_j (fun z => hj (Or.inr (Or.inl z)))).trans (h.2.2.2.2.2.1 j hj), h.2.2.2.2.2.2.up rfl⟩
theorem oMd.tk {M M1 : oM} {a b c d e v : Int32} (h : oMd M M1 a b c d e) : oMd M (oUp M1 K_MOD 0 17 v) a b v d e := ⟨(oUp_j (by decide)).trans h.1, (oUp_j (by decide)).trans h.2.1, oUp_self, (oUp_j (by decide)).trans h.2.2.2.1, (oUp_j (by decide)).trans h.2.2.2.2.1, fun j hj => (oUp_j (fun z => hj (Or.inr (Or.inr (Or.inl z))))).trans (h.2.2.2.2.2.1 j hj), h.2.2.2.2.2.2.up rfl⟩
theorem oMd.vl {M M1 : oM} {a b c d e v : Int32} (h : oMd M M1 a b c d e) : oMd M (oUp M1 K_MOD 0 18 v) a b c v e := ⟨(oUp_j (by decide)).trans h.1, (oUp_j (by decide)).trans h.2.1, (oUp_j (by decide)).trans h.2.2.1, oUp_self, (oUp_j (by decide)).trans h.2.2.2.2.1, fun j hj => (oUp_j (fun z => hj (Or.inr (Or.inr (Or.inr (Or.inl z)))))).trans (h.2.2.2.2.2.1 j hj), h.2.2.2.2.2.2.up rfl⟩
theorem oMd.en {M M1 : oM} {a b c d e v : Int32} (h : oMd M M1 a b c d e) : oMd M (oUp M1 K_MOD 0 19 v) a b c d v := ⟨(oUp_j (by decide)).trans h.1, (oUp_j (by decide)).trans h.2.1, (oUp_j (by decide)).trans h.2.2.1, (oUp_j (by decide)).trans h.2.2.2.1, oUp_self, fun j hj => (oUp_j (fun z => hj (Or.inr (Or.inr (Or.inr (Or.inr z)))))).trans (h.2.2.2.2.2.1 j hj), h.2.2.2.2.2.2.up rfl⟩
theorem c_Mod_isLetter (M : oM) (f : Nat → Int32) (n k : Nat) (hf : ∀ j, j < n → M K_M_tape 0 j = f j) (hn : M K_MOD 0 14 = nI n) (h96 : n ≤ 96) (hk : k ≤ n) : oCt 0 k_Mod_isLetter [.inr (K_MOD, 0), .inl (nI k)] M (fun r M' => r = some (bI (decide (k < n ∧ srt (f k) = 1))) ∧ M' = M) := by
  refine oCt.of (ls := [some (.inr (K_MOD, 0)), some (.inl (nI k))]) mok_Mod_isLetter rfl rfl ?_
  refine oRun_ok 3 rfl ?_
  rw [show M 31 0 14 = _ from hn]
  refine g_ic_ge rfl (fun h5 => ?_) (fun h5 => ?_)
  · rw [nIle (by omega) (by omega)] at h5
    refine oRun_ok 1 rfl ?_
    exact g_iret rfl rfl rfl ⟨by rw [decide_eq_false (fun z => by omega)]; rfl, rfl⟩
  · rw [nIle (by omega) (by omega)] at h5
    refine oRun_ok 3 rfl ?_
    refine g_iald k rfl rfl rfl (by omega) ?_
    rw [show M 43 0 k = _ from hf k (by omega)]
    refine oRun_ok 1 rfl ?_
    refine g_ic_lt rfl (fun h16 => ?_) (fun h16 => ?_)
    · refine oRun_ok 1 rfl ?_
      exact g_iret rfl rfl rfl ⟨by rw [decide_eq_false (fun z => absurd h16 (Int32.not_lt.mpr (srt_1.mp z.2).1))]; rfl, rfl⟩
    · refine oRun_ok 3 rfl ?_
      refine g_iald k rfl rfl rfl (by omega) ?_
      rw [show M 43 0 k = _ from hf k (by omega)]
      refine oRun_ok 1 rfl ?_
      refine g_ic_gt rfl (fun h27 => ?_) (fun h27 => ?_)
      · refine oRun_ok 1 rfl ?_
        exact g_iret rfl rfl rfl ⟨by rw [decide_eq_false (fun z => absurd h27 (Int32.not_lt.mpr (srt_1.mp z.2).2))]; rfl, rfl⟩
      · refine oRun_ok 2 rfl ?_
        exact g_iret rfl rfl rfl ⟨by rw [decide_eq_true ⟨by omega, srt_1.mpr ⟨Int32.not_lt.mp h16, Int32.not_lt.mp h27⟩⟩]; rfl, rfl⟩
theorem c_Mod_isFigure (M : oM) (f : Nat → Int32) (n k : Nat) (hf : ∀ j, j < n → M K_M_tape 0 j = f j) (hn : M K_MOD 0 14 = nI n) (h96 : n ≤ 96) (hk : k ≤ n) : oCt 0 k_Mod_isFigure [.inr (K_MOD, 0), .inl (nI k)] M (fun r M' => r = some (bI (decide (k < n ∧ srt (f k) = 2))) ∧ M' = M) := by
  refine oCt.of (ls := [some (.inr (K_MOD, 0)), some (.inl (nI k))]) mok_Mod_isFigure rfl rfl ?_
  refine oRun_ok 3 rfl ?_
  rw [show M 31 0 14 = _ from hn]
  refine g_ic_ge rfl (fun h5 => ?_) (fun h5 => ?_)
  · rw [nIle (by omega) (by omega)] at h5
    refine oRun_ok 1 rfl ?_
    exact g_iret rfl rfl rfl ⟨by rw [decide_eq_false (fun z => by omega)]; rfl, rfl⟩
  · rw [nIle (by omega) (by omega)] at h5
    refine oRun_ok 3 rfl ?_
    refine g_iald k rfl rfl rfl (by omega) ?_
    rw [show M 43 0 k = _ from hf k (by omega)]
    refine oRun_ok 1 rfl ?_
    refine g_ic_lt rfl (fun h16 => ?_) (fun h16 => ?_)
    · refine oRun_ok 1 rfl ?_
      exact g_iret rfl rfl rfl ⟨by rw [decide_eq_false (fun z => absurd h16 (Int32.not_lt.mpr (srt_2.mp z.2).1))]; rfl, rfl⟩
    · refine oRun_ok 3 rfl ?_
      refine g_iald k rfl rfl rfl (by omega) ?_
      rw [show M 43 0 k = _ from hf k (by omega)]
      refine oRun_ok 1 rfl ?_
      refine g_ic_gt rfl (fun h27 => ?_) (fun h27 => ?_)
      · refine oRun_ok 1 rfl ?_
        exact g_iret rfl rfl rfl ⟨by rw [decide_eq_false (fun z => absurd h27 (Int32.not_lt.mpr (srt_2.mp z.2).2))]; rfl, rfl⟩
      · refine oRun_ok 2 rfl ?_
        exact g_iret rfl rfl rfl ⟨by rw [decide_eq_true ⟨by omega, srt_2.mpr ⟨Int32.not_lt.mp h16, Int32.not_lt.mp h27⟩⟩]; rfl, rfl⟩
def sNum (f : Nat → Int32) (a : Nat) : Nat → Int32
  | 0 => 0
  | k + 1 => 10 * sNum f a k + f (a + k) - 48
/-- what the model's go leaves -/
def Q_go (M : oM) (f : Nat → Int32) (n t b : Nat) (en : Int32) : Option Int32 → oM → Prop := fun r M' => r = none ∧ ∃ vl' en', oMd M M' (nI (nx f n t b).2.2) (nI (nx f n t b).2.1) (nI (nx f n t b).1) vl' en' ∧ ((nx f n t b).1 = 1 ∨ (nx f n t b).1 = 3 → vl' = f (nx f n t b).2.1) ∧ ((nx f n t b).1 = 2 → vl' = sNum f (nx f n t b).2.1 ((nx f n t b).2.2 - (nx f n t b).2.1)) ∧ ((nx f n t b).1 = 1 ∨ (nx f n t b).1 = 2 → en' = nI (nx f n t b).2.2) ∧ ((nx f n t b).1 = 3 → en' = en)
set_option maxRecDepth 8000 in
theorem c_Mod_go (M : oM) (f : Nat → Int32) (n t b : Nat) (en : Int32) (hf : ∀ j, j < n → M K_M_tape 0 j = f j) (hn : M K_MOD 0 14 = nI n) (h96 : n ≤ 96) (hb : M K_MOD 0 15 = nI b) (hbn : b ≤ n) (he : M K_MOD 0 19 = en) (hcl : nxA f n b < n → (nI (nxA f n b) = en ↔ ((t = 1 ∨ t = 2) ∧ nxA f n b = b))) : oCt 1 k_Mod_go [.inr (K_MOD, 0)] M (Q_go M f n t b en) := by
  refine oCt.of (ls := [some (.inr (K_MOD, 0)), none]) mok_Mod_go rfl rfl ?_
  have ha := sSk_le f (n - b) b
  rw [show sSk f (n - b) b = nxA f n b from rfl] at ha
  have bytes : ∀ {M1 : oM} {p q r s u : Int32}, oMd M M1 p q r s u → ∀ j, j < n → M1 43 0 j = f j := fun {M1 p q r s u} h j hj => by
    rw [show M1 43 0 = M 43 0 from h.2.2.2.2.2.2 43 0 (show ¬ K_M_tape = K_MOD by decide)]
    exact hf j hj
  have len : ∀ {M1 : oM} {p q r s u : Int32}, oMd M M1 p q r s u → M1 31 0 14 = nI n := fun {M1 p q r s u} h => (h.2.2.2.2.2.1 14 (by decide)).trans hn
  generalize hA : nxA f n b = a at *
  have eN : nx f n t b = if a < n then (if srt (f a) = 3 then (3, a, a + 1) else (if ((t = 1 ∨ t = 2) ∧ a = b) ∨ (srt (f a) = 2 ∧ 4 < nxE f n a - a) then 4 else srt (f a), a, nxE f n a)) else (0, a, a) := by
    unfold nx
    rw [hA]
  have s3 := srt_3 (f a)
  -- behind the spaces
  have mid : ∀ (M1 : oM) (p q r : Int32), oMd M M1 (nI a) p q r en → oG k_Mod_go 1 38 [some (.inr (K_MOD, 0)), none] [] M1 (Q_go M f n t b en) := by
    intro M1 p q r h0
    refine oRun_ok 8 rfl ?_
    rw [show M1 31 0 15 = _ from h0.1]
    have h1 := h0.fr (v := nI a)
    generalize oUp M1 31 0 16 (nI a) = M2 at h1 ⊢
    rw [show M2 31 0 16 = _ from h1.2.1, show M2 31 0 19 = _ from h1.2.2.2.2.1]
    have at62 : ∀ w : Bool, (a < n → (w = true ↔ ((t = 1 ∨ t = 2) ∧ a = b))) → oG k_Mod_go 1 62 [some (.inr (K_MOD, 0)), none] [.inl (bI w)] M2 (Q_go M f n t b en) := by
      intro w hw
      refine oRun_ok 5 rfl ?_
      rw [show M2 31 0 16 = _ from h1.2.1, len h1]
      refine g_ic_ne rfl (fun z => ?_) (fun z => ?_)
      · rw [nIe (by omega) (by omega)] at z
        have hlt : a < n := by omega
        have hw := hw hlt
        rw [if_pos hlt] at eN
        refine oRun_ok 3 rfl ?_
        rw [show M2 31 0 16 = _ from h1.2.1]
        refine g_callV rfl rfl rfl rfl rfl mok_Mod_isLetter (by decide) (c_Mod_isLetter _ f n a (bytes h1) (len h1) h96 (by omega)) ?_
        rintro r1 N1 ⟨rfl, e⟩; rw [e]
        refine g_if_eq rfl (fun y => ?_) (fun y => ?_)
        · have y1 : ¬ srt (f a) = 1 := fun v => by
            have := bI_eq0.mp y
            rw [decide_eq_true ⟨hlt, v⟩] at this
            cases this
          refine oRun_ok 3 rfl ?_
          rw [show M2 31 0 16 = _ from h1.2.1]
          refine g_callV rfl rfl rfl rfl rfl mok_Mod_isFigure (by decide) (c_Mod_isFigure _ f n a (bytes h1) (len h1) h96 (by omega)) ?_
          rintro r2 N2 ⟨rfl, e⟩; rw [e]
          refine g_if_eq rfl (fun y2 => ?_) (fun y2 => ?_)
          · have y3 : ¬ srt (f a) = 2 := fun v => by
              have := bI_eq0.mp y2
              rw [decide_eq_true ⟨hlt, v⟩] at this
              cases this
            have hs : srt (f a) = 3 := by omega
            rw [if_pos hs] at eN
            refine oRun_ok 8 rfl ?_
            have h2 := h1.tk (v := 3)
            rw [show oUp M2 31 0 17 3 31 0 16 = _ from h2.2.1]
            refine g_iald a rfl rfl rfl (by omega) ?_
            rw [bytes h2 a hlt]
            refine oRun_ok 7 rfl ?_
            have h3 := h2.vl (v := f a)
            rw [show oUp (oUp M2 31 0 17 3) 31 0 18 (f a) 31 0 15 = _ from h3.1, nI_1]
            refine g_ret rfl rfl ⟨rfl, f a, en, ?_⟩
            rw [eN]
            dsimp only
            exact ⟨h3.nt, fun _ => rfl, fun v => absurd v (by decide), fun v => absurd v (by decide), fun _ => rfl⟩
          · have hs : srt (f a) = 2 := (of_decide_eq_true (bI_ne.mp y2)).2
            rw [if_neg (show ¬ srt (f a) = 3 by omega)] at eN
            have hE : nxE f n a = sRn f 2 (n - (a + 1)) (a + 1) := by
              unfold nxE
              rw [hs]
            have hEl := sRn_le f 2 (n - (a + 1)) (a + 1)
            rw [← hE] at hEl
            refine oRun_ok 3 rfl ?_
            have h2 := h1.vl (v := 0)
            have loop : ∀ (m k : Nat) (M3 : oM), k + m = n → a ≤ k → nxE f n a = sRn f 2 m k → oMd M M3 (nI k) (nI a) q (sNum f a (min (k - a) 4)) en → oG k_Mod_go 1 170 [some (.inr (K_MOD, 0)), some (.inl (bI w))] [] M3 (Q_go M f n t b en) := by
              intro m
              have fin : ∀ (k : Nat) (M3 : oM), a ≤ k → k ≤ n → nxE f n a = k → oMd M M3 (nI k) (nI a) q (sNum f a (min (k - a) 4)) en → oG k_Mod_go 1 238 [some (.inr (K_MOD, 0)), some (.inl (bI w))] [] M3 (Q_go M f n t b en) := by
                intro k M3 hak hkn hk h3
                rw [hk] at eN
                have at261 : ∀ v : Nat, (v = if ((t = 1 ∨ t = 2) ∧ a = b) ∨ (srt (f a) = 2 ∧ 4 < k - a) then 4 else 2) → oG k_Mod_go 1 261 [some (.inr (K_MOD, 0)), some (.inl (bI w))] [.inl (nI v), .inr (K_MOD, 0)] M3 (Q_go M f n t b en) := by
                  intro v hv
                  refine oRun_ok 4 rfl ?_
                  have h4 := h3.tk (v := nI v)
                  rw [show oUp M3 31 0 17 (nI v) 31 0 15 = _ from h4.1]
                  refine oRun_ok 2 rfl ?_
                  refine g_ret rfl rfl ⟨rfl, sNum f a (min (k - a) 4), nI k, ?_⟩
                  rw [eN, hs]
                  rw [hs] at hv
                  rw [← hv]
                  refine ⟨h4.en, fun y => ?_, fun y => ?_, fun _ => rfl, fun y => ?_⟩
                  · have y : v = 1 ∨ v = 3 := y
                    split at hv <;> omega
                  · have y : v = 2 := y
                    have : ¬ 4 < k - a := fun u => by
                      rw [if_pos (Or.inr ⟨rfl, u⟩)] at hv
                      omega
                    show sNum f a (min (k - a) 4) = sNum f a (k - a)
                    rw [show min (k - a) 4 = k - a by omega]
                  · have y : v = 3 := y
                    split at hv <;> omega
                refine oRun_ok 2 rfl ?_
                refine g_if_ne rfl (fun y => ?_) (fun y => ?_)
                · refine oRun_ok 2 rfl ?_
                  exact at261 4 (by rw [if_pos (Or.inl (hw.mp (bI_ne.mp y)))])
                · have nw : ¬ ((t = 1 ∨ t = 2) ∧ a = b) := fun u => by
                    have := bI_eq0.mp y
                    rw [hw.mpr u] at this
                    cases this
                  refine oRun_ok 6 rfl ?_
                  rw [show M3 31 0 15 = _ from h3.1, show M3 31 0 16 = _ from h3.2.1, nIsub hak]
                  refine g_ic_le rfl (fun u => ?_) (fun u => ?_)
                  · have u : nI (k - a) ≤ nI 4 := u
                    rw [nIle (by omega) (by omega)] at u
                    refine oRun_ok 1 rfl ?_
                    exact at261 2 (by rw [if_neg (fun v => v.elim nw (fun x => by omega))])
                  · have u : ¬ nI (k - a) ≤ nI 4 := u
                    rw [nIle (by omega) (by omega)] at u
                    refine oRun_ok 2 rfl ?_
                    exact at261 4 (by rw [if_pos (Or.inr ⟨hs, by omega⟩)])
              induction m with
              | zero =>
                intro k M3 hk hak hr h3
                obtain rfl : k = n := by omega
                refine oRun_ok 3 rfl ?_
                rw [show M3 31 0 15 = _ from h3.1]
                refine g_callV rfl rfl rfl rfl rfl mok_Mod_isFigure (by decide) (c_Mod_isFigure _ f k k (bytes h3) (len h3) h96 (by omega)) ?_
                rintro r3 N3 ⟨rfl, e⟩; rw [e, decide_eq_false (fun y => by omega)]
                refine g_if_eq rfl (fun _ => ?_) (fun y => absurd rfl y)
                exact fin k M3 hak (by omega) hr h3
              | succ m ih =>
                intro k M3 hk hak hr h3
                refine oRun_ok 3 rfl ?_
                rw [show M3 31 0 15 = _ from h3.1]
                refine g_callV rfl rfl rfl rfl rfl mok_Mod_isFigure (by decide) (c_Mod_isFigure _ f n k (bytes h3) (len h3) h96 (by omega)) ?_
                rintro r3 N3 ⟨rfl, e⟩; rw [e]
                by_cases y : srt (f k) = 2
                · rw [decide_eq_true ⟨by omega, y⟩]
                  refine g_if_eq rfl (fun u => absurd u (by decide)) (fun _ => ?_)
                  have next : ∀ v, v = sNum f a (min (k + 1 - a) 4) → oG k_Mod_go 1 222 [some (.inr (K_MOD, 0)), some (.inl (bI w))] [.inl v, .inr (K_MOD, 0)] M3 (Q_go M f n t b en) := by
                    rintro v rfl
                    refine oRun_ok 8 rfl ?_
                    have h4 := h3.vl (v := sNum f a (min (k + 1 - a) 4))
                    rw [show oUp M3 31 0 18 (sNum f a (min (k + 1 - a) 4)) 31 0 15 = _ from h4.1, nI_1]
                    refine ih (k + 1) _ (by omega) (by omega) ?_ h4.nt
                    rw [hr, sRn, if_pos y]
                  refine oRun_ok 7 rfl ?_
                  rw [show M3 31 0 15 = _ from h3.1, show M3 31 0 16 = _ from h3.2.1, nIsub hak]
                  refine g_ic_ge rfl (fun u => ?_) (fun u => ?_)
                  · have u : nI 4 ≤ nI (k - a) := u
                    rw [nIle (by omega) (by omega)] at u
                    refine oRun_ok 2 rfl ?_
                    exact next _ ((h3.2.2.2.1).trans (by rw [show min (k - a) 4 = min (k + 1 - a) 4 by omega]))
                  · have u : ¬ nI 4 ≤ nI (k - a) := u
                    rw [nIle (by omega) (by omega)] at u
                    refine oRun_ok 8 rfl ?_
                    refine g_iald k rfl rfl h3.1 (by omega) ?_
                    rw [bytes h3 k (by omega), show M3 31 0 18 = _ from h3.2.2.2.1]
                    refine oRun_ok 4 rfl ?_
                    refine next _ ?_
                    rw [show min (k + 1 - a) 4 = min (k - a) 4 + 1 by omega, sNum, show a + min (k - a) 4 = k by omega]
                · rw [decide_eq_false (fun u => y u.2)]
                  refine g_if_eq rfl (fun _ => ?_) (fun u => absurd rfl u)
                  exact fin k M3 hak (by omega) (by rw [hr, sRn, if_neg y]) h3
            refine loop (n - a) a _ (by omega) (Nat.le_refl _) ?_ ?_
            · rw [hE, show n - a = (n - (a + 1)) + 1 by omega, sRn, if_pos hs]
            · rw [show min (a - a) 4 = 0 by omega]
              exact h2
        · have hs : srt (f a) = 1 := (of_decide_eq_true (bI_ne.mp y)).2
          rw [if_neg (show ¬ srt (f a) = 3 by omega)] at eN
          have hE : nxE f n a = sRn f 1 (n - (a + 1)) (a + 1) := by
            unfold nxE
            rw [hs]
          have loop : ∀ (m k : Nat) (M3 : oM), k + m = n → a ≤ k → nxE f n a = sRn f 1 m k → oMd M M3 (nI k) (nI a) q r en → oG k_Mod_go 1 93 [some (.inr (K_MOD, 0)), some (.inl (bI w))] [] M3 (Q_go M f n t b en) := by
            intro m
            have fin : ∀ (k : Nat) (M3 : oM), a ≤ k → k ≤ n → nxE f n a = k → oMd M M3 (nI k) (nI a) q r en → oG k_Mod_go 1 117 [some (.inr (K_MOD, 0)), some (.inl (bI w))] [] M3 (Q_go M f n t b en) := by
              intro k M3 hak hkn hk h3
              rw [hk] at eN
              have at127 : ∀ v : Nat, (v = if ((t = 1 ∨ t = 2) ∧ a = b) ∨ (srt (f a) = 2 ∧ 4 < k - a) then 4 else 1) → oG k_Mod_go 1 127 [some (.inr (K_MOD, 0)), some (.inl (bI w))] [.inl (nI v), .inr (K_MOD, 0)] M3 (Q_go M f n t b en) := by
                intro v hv
                refine oRun_ok 6 rfl ?_
                have h4 := h3.tk (v := nI v)
                rw [show oUp M3 31 0 17 (nI v) 31 0 16 = _ from h4.2.1]
                refine g_iald a rfl rfl rfl (by omega) ?_
                rw [bytes h4 a hlt]
                refine oRun_ok 4 rfl ?_
                have h5 := h4.vl (v := f a)
                rw [show oUp (oUp M3 31 0 17 (nI v)) 31 0 18 (f a) 31 0 15 = _ from h5.1]
                refine oRun_ok 2 rfl ?_
                refine g_ret rfl rfl ⟨rfl, f a, nI k, ?_⟩
                rw [eN, hs]
                rw [hs] at hv
                rw [← hv]
                refine ⟨h5.en, fun y => rfl, fun y => ?_, fun _ => rfl, fun y => ?_⟩
                · have y : v = 2 := y
                  split at hv <;> omega
                · have y : v = 3 := y
                  split at hv <;> omega
              refine oRun_ok 2 rfl ?_
              refine g_if_eq rfl (fun y => ?_) (fun y => ?_)
              · have nw : ¬ ((t = 1 ∨ t = 2) ∧ a = b) := fun u => by
                  have := bI_eq0.mp y
                  rw [hw.mpr u] at this
                  cases this
                refine oRun_ok 1 rfl ?_
                exact at127 1 (by rw [if_neg (fun v => v.elim nw (fun x => by omega))])
              · refine oRun_ok 2 rfl ?_
                exact at127 4 (by rw [if_pos (Or.inl (hw.mp (bI_ne.mp y)))])
            induction m with
            | zero =>
              intro k M3 hk hak hr h3
              obtain rfl : k = n := by omega
              refine oRun_ok 3 rfl ?_
              rw [show M3 31 0 15 = _ from h3.1]
              refine g_callV rfl rfl rfl rfl rfl mok_Mod_isLetter (by decide) (c_Mod_isLetter _ f k k (bytes h3) (len h3) h96 (by omega)) ?_
              rintro r3 N3 ⟨rfl, e⟩; rw [e, decide_eq_false (fun y => by omega)]
              refine g_if_eq rfl (fun _ => ?_) (fun y => absurd rfl y)
              exact fin k M3 hak (by omega) hr h3
            | succ m ih =>
              intro k M3 hk hak hr h3
              refine oRun_ok 3 rfl ?_
              rw [show M3 31 0 15 = _ from h3.1]
              refine g_callV rfl rfl rfl rfl rfl mok_Mod_isLetter (by decide) (c_Mod_isLetter _ f n k (bytes h3) (len h3) h96 (by omega)) ?_
              rintro r3 N3 ⟨rfl, e⟩; rw [e]
              by_cases y : srt (f k) = 1
              · rw [decide_eq_true ⟨by omega, y⟩]
                refine g_if_eq rfl (fun u => absurd u (by decide)) (fun _ => ?_)
                refine oRun_ok 7 rfl ?_
                rw [show M3 31 0 15 = _ from h3.1, nI_1]
                refine ih (k + 1) _ (by omega) (by omega) ?_ h3.nt
                rw [hr, sRn, if_pos y]
              · rw [decide_eq_false (fun u => y u.2)]
                refine g_if_eq rfl (fun _ => ?_) (fun u => absurd rfl u)
                exact fin k M3 hak (by omega) (by rw [hr, sRn, if_neg y]) h3
          refine loop (n - a) a _ (by omega) (Nat.le_refl _) ?_ h1
          rw [hE, show n - a = (n - (a + 1)) + 1 by omega, sRn, if_pos hs]
      · rw [nIe (by omega) (by omega)] at z
        rw [if_neg (by omega)] at eN
        refine oRun_ok 4 rfl ?_
        refine g_ret rfl rfl ⟨rfl, r, en, ?_⟩
        rw [eN]
        dsimp only
        exact ⟨h1.tk, fun v => v.elim (fun u => absurd u (by decide)) (fun u => absurd u (by decide)), fun v => absurd v (by decide), fun v => v.elim (fun u => absurd u (by decide)) (fun u => absurd u (by decide)), fun v => absurd v (by decide)⟩
    refine g_ic_ne rfl (fun z => ?_) (fun z => ?_)
    · refine oRun_ok 1 rfl ?_
      exact at62 false (fun hlt => ⟨fun v => (by cases v), fun v => absurd ((hcl hlt).mpr v) z⟩)
    · refine oRun_ok 2 rfl ?_
      exact at62 true (fun hlt => ⟨fun _ => (hcl hlt).mp z, fun _ => rfl⟩)
  have skip : ∀ (p q r : Int32) (m k : Nat) (M1 : oM), k + m = n → b ≤ k → a = sSk f m k → oMd M M1 (nI k) p q r en → oG k_Mod_go 1 0 [some (.inr (K_MOD, 0)), none] [] M1 (Q_go M f n t b en) := by
    intro p q r m
    induction m with
    | zero =>
      intro k M1 hk hbk hs h
      obtain rfl : k = n := by omega
      refine oRun_ok 4 rfl ?_
      rw [show M1 31 0 15 = _ from h.1, len h]
      refine g_ic_ge rfl (fun _ => ?_) (fun z => absurd (Int32.le_refl _) z)
      exact mid M1 p q r (by rw [hs]; exact h)
    | succ m ih =>
      intro k M1 hk hbk hs h
      refine oRun_ok 4 rfl ?_
      rw [show M1 31 0 15 = _ from h.1, len h]
      refine g_ic_ge rfl (fun z => ?_) (fun _ => ?_)
      · rw [nIle (by omega) (by omega)] at z
        omega
      refine oRun_ok 4 rfl ?_
      refine g_iald k rfl rfl h.1 (by omega) ?_
      rw [bytes h k (by omega)]
      refine oRun_ok 1 rfl ?_
      refine g_ic_ne rfl (fun z => ?_) (fun z => ?_)
      · exact mid M1 p q r (by rw [hs, sSk, if_neg z]; exact h)
      · refine oRun_ok 7 rfl ?_
        rw [show M1 31 0 15 = _ from h.1, nI_1]
        refine ih (k + 1) _ (by omega) (by omega) ?_ h.nt
        rw [hs, sSk, if_pos z]
  have h0 := oMd.rf M
  rw [hb, he] at h0
  exact skip _ _ _ (n - b) b M (by omega) (Nat.le_refl _) hA.symm h0

