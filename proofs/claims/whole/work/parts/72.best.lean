/-! ===== best, learn ===== -/
def s_best (D : oM) (d w : Int32) : Int32 × oM := if f_Oak_isWithin d 0 (D K_M_now 0 2 - 1) = 0 then (vBAD, D) else if f_Oak_isWithin w 0 3 = 0 then (vBAD, D) else
  (if w = 0 then (sMin (fun n => sGap (D K_M_now 0) d.toNatClampNeg (nI n) (sCh (D K_M_now 0) d.toNatClampNeg)) nI 8).2
   else if w = 1 then (sMin (fun n => sGap (D K_M_now 0) d.toNatClampNeg (nI n) (sCh (D K_M_now 0) d.toNatClampNeg)) nI 8).1
   else if w = 2 then (sMin (fun n => sGap (D K_M_now 0) d.toNatClampNeg (sNd (D K_M_now 0) d.toNatClampNeg) (nI n - 9)) (fun n => nI n - 9) 19).2
   else (sMin (fun n => sGap (D K_M_now 0) d.toNatClampNeg (sNd (D K_M_now 0) d.toNatClampNeg) (nI n - 9)) (fun n => nI n - 9) 19).1, D)
theorem p_best (M D : oM) (d w : Int32) (hI : oI M D) : oCt 6 k_Oak_best [.inr (K_OAK, 0), .inl d, .inl w] M (oQC (s_best D d w) M) := by
  refine oCt.of (ls := [some (.inr (K_OAK, 0)), some (.inl d), some (.inl w)]) mok_Oak_best rfl rfl ?_
  refine oRun_ok 3 rfl ?_
  refine g_callV rfl rfl rfl rfl rfl mok_Land_hasDeed (by decide) (c_Land_hasDeed _ 0 _) ?_
  rintro r5 M5 ⟨rfl, e⟩; rw [e]
  rw [hI.dd]
  refine g_if_eq rfl (fun h8 => ?_) (fun h8 => ?_)
  · refine oRun_ok 1 rfl ?_
    exact g_iret rfl rfl rfl (oQC.same hI (if_pos h8))
  · refine oRun_ok 3 rfl ?_
    refine g_callS rfl rfl rfl rfl mok_Oak_isWithin (by decide) (c_Oak_isWithin _ _ _ _) ?_
    rintro r14 M14 ⟨rfl, e⟩; rw [e]
    refine g_if_ne rfl (fun h17 => ?_) (fun h17 => ?_)
    · obtain ⟨j, hj, hj4, rfl, ej⟩ := oHasD hI h8
      have w4 := thing4 h17
      have fin : ∀ u, (if w = 0 then (sMin (fun n => sGap (D K_M_now 0) j (nI n) (sCh (D K_M_now 0) j)) nI 8).2
         else if w = 1 then (sMin (fun n => sGap (D K_M_now 0) j (nI n) (sCh (D K_M_now 0) j)) nI 8).1
         else if w = 2 then (sMin (fun n => sGap (D K_M_now 0) j (sNd (D K_M_now 0) j) (nI n - 9)) (fun n => nI n - 9) 19).2
         else (sMin (fun n => sGap (D K_M_now 0) j (sNd (D K_M_now 0) j) (nI n - 9)) (fun n => nI n - 9) 19).1) = u → s_best D (nI j) w = (u, D) := fun u hu => (if_neg h8).trans ((if_neg h17).trans (by rw [ej, hu]))
      refine oRun_ok 2 rfl ?_
      refine g_ic_ge rfl (fun h25 => ?_) (fun h25 => ?_)
      · have w2 : w = 2 ∨ w = 3 := by
          rcases w4 with y | y | y | y
          · rw [y] at h25; exact absurd h25 (by decide)
          · rw [y] at h25; exact absurd h25 (by decide)
          · exact Or.inl y
          · exact Or.inr y
        refine oRun_ok 3 rfl ?_
        refine g_callV rfl rfl rfl rfl rfl mok_Walk_findBestChain (by decide) (c_Walk_findBestChain _ _ 0 j hI.ok hI.rl hj) ?_
        rintro r M' ⟨rfl, f1, f2, f3⟩
        refine oRun_ok 2 rfl ?_
        refine g_ic_ne rfl (fun h68 => ?_) (fun h68 => ?_)
        · have w3 : w = 3 := w2.resolve_left h68
          subst w3
          refine oRun_ok 3 rfl ?_
          exact g_iret rfl rfl rfl (oQC.look hI (fin _ (by rw [show M' 9 0 4 = _ from f1]; rfl)) f3.ws)
        · subst h68
          refine oRun_ok 4 rfl ?_
          exact g_iret rfl rfl rfl (oQC.look hI (fin _ (by rw [show M' 9 0 7 = _ from f2]; rfl)) f3.ws)
      · have w2 : w = 0 ∨ w = 1 := by
          rcases w4 with y | y | y | y
          · exact Or.inl y
          · exact Or.inr y
          · rw [y] at h25; exact absurd (by decide) h25
          · rw [y] at h25; exact absurd (by decide) h25
        refine oRun_ok 3 rfl ?_
        refine g_callV rfl rfl rfl rfl rfl mok_Walk_findBestNeedle (by decide) (c_Walk_findBestNeedle _ _ 0 j hI.ok hI.rl hj) ?_
        rintro r M' ⟨rfl, f1, f2, f3⟩
        refine oRun_ok 1 rfl ?_
        refine g_if_ne rfl (fun h37 => ?_) (fun h37 => ?_)
        · have w3 : w = 1 := w2.resolve_left h37
          subst w3
          refine oRun_ok 3 rfl ?_
          exact g_iret rfl rfl rfl (oQC.look hI (fin _ (by rw [show M' 9 0 4 = _ from f1]; rfl)) f3.ws)
        · have w3 : w = 0 := h37
          subst w3
          refine oRun_ok 4 rfl ?_
          exact g_iret rfl rfl rfl (oQC.look hI (fin _ (by rw [show M' 9 0 7 = _ from f2]; rfl)) f3.ws)
    · refine oRun_ok 1 rfl ?_
      exact g_iret rfl rfl rfl (oQC.same hI ((if_neg h8).trans (if_pos h17)))
/-- the model's two numbers behind n tries -/
def oBr (v num : Nat → Int32) (n : Nat) (b l : Int32) : Prop := (n = 0 ∧ b = 0 ∧ l = -1) ∨ (0 < n ∧ b = (sMin v num n).2 ∧ l = (sMin v num n).1 ∧ 0 ≤ l.toInt)
theorem oBr_step {v num : Nat → Int32} {n : Nat} {b l : Int32} (h : oBr v num n b l) (hv : inR (v n) 0 100000) : oBr v num (n + 1) (if l < 0 ∨ v n < l then num n else b) (if l < 0 ∨ v n < l then v n else l) := by
  right
  refine ⟨by omega, ?_⟩
  rw [sMin]
  rcases h with ⟨rfl, rfl, rfl⟩ | ⟨h0, h1, h2, h3⟩
  · rw [if_pos (Or.inl (by decide)), if_pos (Or.inl (by decide)), if_pos (by
      rw [iLt]
      show (v 0).toInt < 1000000
      have := hv.2
      omega)]
    exact ⟨rfl, rfl, hv.1⟩
  · have hl : ¬ l < 0 := fun z => by
      have := iLt.mp z
      rw [show (0 : Int32).toInt = 0 from rfl] at this
      omega
    by_cases y : v n < l
    · rw [if_pos (Or.inr y), if_pos (Or.inr y)]
      rw [h2] at y
      rw [if_pos y]
      exact ⟨rfl, rfl, hv.1⟩
    · have nc : ¬ (l < 0 ∨ v n < l) := fun z => z.elim hl y
      rw [if_neg nc, if_neg nc]
      rw [h2] at y
      rw [if_neg y]
      exact ⟨h1, h2, h3⟩
theorem gap_eq {M' : oM} {N : Nat → Int32} {d : Nat} {nd ch : Int32} (h : ∀ j, j < cC N d → M' K_M_kinds 0 j = kA N d j ∧ M' K_M_ways 0 j = wA N d j ∧ M' K_M_lengths 0 j = lA N d j) : sGapP (N (20 + 35 * d)) (N (20 + 35 * d + 1)) (sMc M' N d nd ch (cC N d)) = sGap N d nd ch := by
  unfold sGap sC sMc
  rw [sCor_congr h]
/-- what is taken stays while laws are worked out and corners found -/
theorem taken_ml {M M' : oM} {P : (Nat → Int32) → (Nat → Int32) → (Nat → Int32) → Int32 → Prop} (h : oFr oMl M M') (hp : P (M K_M_kinds 0) (M K_M_ways 0) (M K_M_lengths 0) (M K_MOD 0 7)) : P (M' K_M_kinds 0) (M' K_M_ways 0) (M' K_M_lengths 0) (M' K_MOD 0 7) := by
  have e : ∀ k, ¬ (k = K_M_stack ∨ k = K_M_facts) → M' k 0 = M k 0 := fun k hk => h k 0 hk
  rw [e K_M_kinds (by decide), e K_M_ways (by decide), e K_M_lengths (by decide), e K_MOD (by decide)]
  exact hp
theorem taken_mw {M M' : oM} {P : (Nat → Int32) → (Nat → Int32) → (Nat → Int32) → Int32 → Prop} (h : oFr oMw M M') (hp : P (M K_M_kinds 0) (M K_M_ways 0) (M K_M_lengths 0) (M K_MOD 0 7)) : P (M' K_M_kinds 0) (M' K_M_ways 0) (M' K_M_lengths 0) (M' K_MOD 0 7) := by
  have e : ∀ k, ¬ (k = K_M_cornerX ∨ k = K_M_cornerY) → M' k 0 = M k 0 := fun k hk => h k 0 hk
  rw [e K_M_kinds (by decide), e K_M_ways (by decide), e K_M_lengths (by decide), e K_MOD (by decide)]
  exact hp
def oTk (N : Nat → Int32) (d : Nat) (ka wa la : Nat → Int32) (c : Int32) : Prop := c = nI (cC N d) ∧ ∀ j, j < cC N d → ka j = kA N d j ∧ wa j = wA N d j ∧ la j = lA N d j
theorem q_best (C M D : oM) (d w : Int32) (hI : oI C D) (hD : oPs D M) : oCt 6 k_Mod_best [.inr (K_MOD, 0), .inl d, .inl w] M (oQM (s_best D d w) M) := by
  have hN := hD.now
  refine oCt.of (ls := [some (.inr (K_MOD, 0)), some (.inl d), some (.inl w), none, none, none, none]) mok_Mod_best rfl rfl ?_
  refine oRun_ok 2 rfl ?_
  refine g_callV rfl rfl rfl rfl rfl mok_Mod_isDeed (by decide) (c_Mod_isDeed _ _) ?_
  rintro r2 M2 ⟨rfl, e⟩; rw [e]
  rw [hN]
  refine g_if_eq rfl (fun h5 => ?_) (fun h5 => ?_)
  · refine oRun_ok 1 rfl ?_
    exact g_iret rfl rfl rfl (oQM.same hD (if_pos h5))
  · refine oRun_ok 3 rfl ?_
    refine g_callS rfl rfl rfl rfl mok_Mod_in (by decide) (c_Mod_in _ _ _ _) ?_
    rintro r11 M11 ⟨rfl, e⟩; rw [e]
    refine g_if_ne rfl (fun h14 => ?_) (fun h14 => ?_)
    · obtain ⟨j, hj, hj4, rfl, ej⟩ := oHasD hI h5
      obtain ⟨hC, c10⟩ := oNC (hI.dok hj)
      have w4 := thing4 h14
      have hcr := sCh_rng hI.ok hj
      have fin : ∀ u, (if w = 0 then (sMin (fun n => sGap (D K_M_now 0) j (nI n) (sCh (D K_M_now 0) j)) nI 8).2
         else if w = 1 then (sMin (fun n => sGap (D K_M_now 0) j (nI n) (sCh (D K_M_now 0) j)) nI 8).1
         else if w = 2 then (sMin (fun n => sGap (D K_M_now 0) j (sNd (D K_M_now 0) j) (nI n - 9)) (fun n => nI n - 9) 19).2
         else (sMin (fun n => sGap (D K_M_now 0) j (sNd (D K_M_now 0) j) (nI n - 9)) (fun n => nI n - 9) 19).1) = u → s_best D (nI j) w = (u, D) := fun u hu => (if_neg h5).trans ((if_neg h14).trans (by rw [ej, hu]))
      refine oRun_ok 2 rfl ?_
      refine g_callV rfl rfl rfl rfl rfl mok_Mod_takeCalls (by decide) (c_Mod_takeCalls _ _ j hN hI.ok hj) ?_
      rintro r M1 ⟨rfl, a7, ao, aa, af⟩
      have m1 := oMs_mt af ao
      have t1 : oTk (D K_M_now 0) j (M1 K_M_kinds 0) (M1 K_M_ways 0) (M1 K_M_lengths 0) (M1 K_MOD 0 7) := ⟨a7, aa⟩
      -- behind the gap: the two choices, and on
      have join : ∀ (v num : Nat → Int32) (n : Nat) (b l : Int32) (M3 : oM), oBr v num n b l → inR (v n) 0 100000 → (∀ b' l', oBr v num (n + 1) b' l' → oG k_Mod_best 6 134 [some (.inr (K_MOD, 0)), some (.inl (nI j)), some (.inl w), some (.inl b'), some (.inl l'), some (.inl (num n)), some (.inl (v n))] [] M3 (oQM (s_best D (nI j) w) M)) → ∀ x6 : Option oV, oG k_Mod_best 6 92 [some (.inr (K_MOD, 0)), some (.inl (nI j)), some (.inl w), some (.inl b), some (.inl l), some (.inl (num n)), x6] [.inl (v n)] M3 (oQM (s_best D (nI j) w) M) := by
        intro v num n b l M3 hb hv go x6
        have hs := oBr_step hb hv
        refine oRun_ok 2 rfl ?_
        refine g_if_lt rfl (fun a => ?_) (fun a => ?_)
        · rw [if_pos (Or.inl a), if_pos (Or.inl a)] at hs
          refine oRun_ok 4 rfl ?_
          refine g_if_lt rfl (fun _ => ?_) (fun c => absurd a c)
          refine oRun_ok 3 rfl ?_
          exact go _ _ hs
        · refine oRun_ok 2 rfl ?_
          refine g_ic_ge rfl (fun c => ?_) (fun c => ?_)
          · have nc : ¬ (l < 0 ∨ v n < l) := fun y => y.elim a (fun z => Int32.not_lt.mpr c z)
            rw [if_neg nc, if_neg nc] at hs
            refine oRun_ok 3 rfl ?_
            refine g_if_lt rfl (fun e => absurd e a) (fun _ => ?_)
            refine oRun_ok 2 rfl ?_
            refine g_ic_ge rfl (fun _ => ?_) (fun e => absurd c e)
            refine oRun_ok 2 rfl ?_
            exact go _ _ hs
          · rw [if_pos (Or.inr (Int32.not_le.mp c)), if_pos (Or.inr (Int32.not_le.mp c))] at hs
            refine oRun_ok 4 rfl ?_
            refine g_if_lt rfl (fun e => absurd e a) (fun _ => ?_)
            refine oRun_ok 2 rfl ?_
            refine g_ic_ge rfl (fun e => absurd e c) (fun _ => ?_)
            refine oRun_ok 3 rfl ?_
            exact go _ _ hs
      refine oRun_ok 6 rfl ?_
      refine g_ic_ge rfl (fun h32 => ?_) (fun h32 => ?_)
      · have w2 : w = 2 ∨ w = 3 := by
          rcases w4 with y | y | y | y
          · rw [y] at h32; exact absurd h32 (by decide)
          · rw [y] at h32; exact absurd h32 (by decide)
          · exact Or.inl y
          · exact Or.inr y
        refine oRun_ok 2 rfl ?_
        generalize hv : (fun n : Nat => sGap (D K_M_now 0) j (sNd (D K_M_now 0) j) (nI n - 9)) = v at fin
        generalize hnum : (fun n : Nat => nI n - 9) = num at fin
        have nat : ∀ n : Nat, nI n - 9 = num n := fun n => by rw [← hnum]
        have vat : ∀ n : Nat, sGap (D K_M_now 0) j (sNd (D K_M_now 0) j) (num n) = v n := fun n => by rw [← hv, ← nat n]
        have n9 : ∀ n : Nat, n < 1000 → (num n).toInt = (n : Int) - 9 := fun n hn => by
          rw [← nat n, iSub (by rw [nIt (by omega), show (9 : Int32).toInt = 9 from rfl]; omega), nIt (by omega)]
          rfl
        have loop : ∀ (q n : Nat) (M2 : oM) (b l : Int32) (x6 : Option oV), n + q = 19 → oBr v num n b l → oMs M M2 → oTk (D K_M_now 0) j (M2 K_M_kinds 0) (M2 K_M_ways 0) (M2 K_M_lengths 0) (M2 K_MOD 0 7) → oG k_Mod_best 6 43 [some (.inr (K_MOD, 0)), some (.inl (nI j)), some (.inl w), some (.inl b), some (.inl l), some (.inl (num n)), x6] [] M2 (oQM (s_best D (nI j) w) M) := by
          intro q
          induction q with
          | zero =>
            intro n M2 b l x6 hn hb hm ht
            obtain rfl : n = 19 := by omega
            obtain ⟨-, hb1, hb2, -⟩ := hb.resolve_left (fun z => absurd z.1 (by decide))
            refine oRun_ok 3 rfl ?_
            refine g_ic_ge rfl (fun _ => ?_) (fun z => absurd h32 z)
            refine oRun_ok 1 rfl ?_
            refine g_ic_gt rfl (fun _ => ?_) (fun z => absurd (iLt.mpr (by rw [n9 19 (by decide)]; decide)) z)
            rcases w2 with rfl | rfl
            · refine oRun_ok 3 rfl ?_
              refine g_if_ne rfl (fun z => absurd (by decide) z) (fun _ => ?_)
              refine oRun_ok 2 rfl ?_
              exact g_iret rfl rfl rfl (oQM.look hD (fin _ (by rw [hb1]; rfl)) hm)
            · refine oRun_ok 3 rfl ?_
              refine g_if_ne rfl (fun _ => ?_) (fun z => absurd z (by decide))
              refine oRun_ok 1 rfl ?_
              exact g_iret rfl rfl rfl (oQM.look hD (fin _ (by rw [hb2]; rfl)) hm)
          | succ q ih =>
            intro n M2 b l x6 hn hb hm ht
            refine oRun_ok 3 rfl ?_
            refine g_ic_ge rfl (fun _ => ?_) (fun z => absurd h32 z)
            refine oRun_ok 1 rfl ?_
            refine g_ic_gt rfl (fun z => ?_) (fun _ => ?_)
            · have := iLt.mp z
              rw [n9 n (by omega), show (9 : Int32).toInt = 9 from rfl] at this
              omega
            refine oRun_ok 2 rfl ?_
            refine g_ic_ge rfl (fun _ => ?_) (fun z => absurd h32 z)
            refine oRun_ok 4 rfl ?_
            refine g_callV rfl rfl rfl rfl rfl mok_Mod_needleOf (by decide) (c_Mod_needleOf _ _ j ((hm.at (by decide) 0).trans hN) hI.ok hj) ?_
            rintro r3 M3 ⟨rfl, f3⟩
            have m3 := hm.tr (oMs_ml f3)
            have t3 := taken_ml f3 ht
            refine oRun_ok 1 rfl ?_
            refine g_callV rfl rfl rfl rfl rfl mok_Mod_walks (by decide) (c_Mod_walks _ _ j (cC (D K_M_now 0) j) _ _ ((m3.at (by decide) 0).trans hN) hI.ok hj t3.1 c10) ?_
            rintro r4 M4 ⟨rfl, -, f4⟩
            have m4 := m3.tr (oMs_mw f4)
            have t4 := taken_mw f4 t3
            rw [gap_eq t3.2, vat n]
            refine join v num n b l M4 hb ?_ (fun b' l' h' => ?_) _
            · rw [← vat n]
              obtain ⟨q1, q2⟩ := sGap_rng (nd := sNd (D K_M_now 0) j) (ch := num n) hI.ok hj ⟨by rw [n9 n (by omega)]; omega, by rw [n9 n (by omega)]; omega⟩
              exact ⟨q1, by omega⟩
            · refine oRun_ok 2 rfl ?_
              rw [show num n + 1 = num (n + 1) by rw [iEq, iAdd (by rw [n9 n (by omega), show (1 : Int32).toInt = 1 from rfl]; omega), n9 n (by omega), n9 (n + 1) (by omega)]; show (n : Int) - 9 + 1 = ((n + 1 : Nat) : Int) - 9; omega]
              exact ih (n + 1) M4 b' l' _ (by omega) h' m4 t4
        rw [show (-9 : Int32) = num 0 by rw [← nat 0]; rfl]
        exact loop 19 0 M1 0 (-1) _ (by omega) (Or.inl ⟨rfl, rfl, rfl⟩) m1 t1
      · have w2 : w = 0 ∨ w = 1 := by
          rcases w4 with y | y | y | y
          · exact Or.inl y
          · exact Or.inr y
          · rw [y] at h32; exact absurd (by decide) h32
          · rw [y] at h32; exact absurd (by decide) h32
        refine oRun_ok 3 rfl ?_
        generalize hv : (fun n : Nat => sGap (D K_M_now 0) j (nI n) (sCh (D K_M_now 0) j)) = v at fin
        have vat : ∀ n : Nat, sGap (D K_M_now 0) j (nI n) (sCh (D K_M_now 0) j) = v n := fun n => by rw [← hv]
        have loop : ∀ (q n : Nat) (M2 : oM) (b l : Int32) (x6 : Option oV), n + q = 8 → oBr v nI n b l → oMs M M2 → oTk (D K_M_now 0) j (M2 K_M_kinds 0) (M2 K_M_ways 0) (M2 K_M_lengths 0) (M2 K_MOD 0 7) → oG k_Mod_best 6 43 [some (.inr (K_MOD, 0)), some (.inl (nI j)), some (.inl w), some (.inl b), some (.inl l), some (.inl (nI n)), x6] [] M2 (oQM (s_best D (nI j) w) M) := by
          intro q
          induction q with
          | zero =>
            intro n M2 b l x6 hn hb hm ht
            obtain rfl : n = 8 := by omega
            obtain ⟨-, hb1, hb2, -⟩ := hb.resolve_left (fun z => absurd z.1 (by decide))
            refine oRun_ok 3 rfl ?_
            refine g_ic_ge rfl (fun z => absurd z h32) (fun _ => ?_)
            refine oRun_ok 2 rfl ?_
            refine g_ic_gt rfl (fun _ => ?_) (fun z => absurd (by decide) z)
            rcases w2 with rfl | rfl
            · refine oRun_ok 3 rfl ?_
              refine g_if_ne rfl (fun z => absurd (by decide) z) (fun _ => ?_)
              refine oRun_ok 2 rfl ?_
              exact g_iret rfl rfl rfl (oQM.look hD (fin _ (by rw [hb1]; rfl)) hm)
            · refine oRun_ok 3 rfl ?_
              refine g_if_ne rfl (fun _ => ?_) (fun z => absurd z (by decide))
              refine oRun_ok 1 rfl ?_
              exact g_iret rfl rfl rfl (oQM.look hD (fin _ (by rw [hb2]; rfl)) hm)
          | succ q ih =>
            intro n M2 b l x6 hn hb hm ht
            refine oRun_ok 3 rfl ?_
            refine g_ic_ge rfl (fun z => absurd z h32) (fun _ => ?_)
            refine oRun_ok 2 rfl ?_
            refine g_ic_gt rfl (fun z => ?_) (fun _ => ?_)
            · have z : nI 7 < nI n := z
              rw [nIlt (by omega) (by omega)] at z
              omega
            refine oRun_ok 2 rfl ?_
            refine g_ic_ge rfl (fun z => absurd z h32) (fun _ => ?_)
            refine oRun_ok 5 rfl ?_
            refine g_callV rfl rfl rfl rfl rfl mok_Mod_chainOf (by decide) (c_Mod_chainOf _ _ j ((hm.at (by decide) 0).trans hN) hI.ok hj) ?_
            rintro r3 M3 ⟨rfl, f3⟩
            have m3 := hm.tr (oMs_ml f3)
            have t3 := taken_ml f3 ht
            refine g_callV rfl rfl rfl rfl rfl mok_Mod_walks (by decide) (c_Mod_walks _ _ j (cC (D K_M_now 0) j) _ _ ((m3.at (by decide) 0).trans hN) hI.ok hj t3.1 c10) ?_
            rintro r4 M4 ⟨rfl, -, f4⟩
            have m4 := m3.tr (oMs_mw f4)
            have t4 := taken_mw f4 t3
            rw [gap_eq t3.2, vat n]
            refine oRun_ok 1 rfl ?_
            refine join v nI n b l M4 hb ?_ (fun b' l' h' => ?_) _
            · rw [← vat n]
              obtain ⟨q1, q2⟩ := sGap_rng (nd := nI n) hI.ok hj hcr
              exact ⟨q1, by omega⟩
            · refine oRun_ok 2 rfl ?_
              rw [nI_1]
              exact ih (n + 1) M4 b' l' _ (by omega) h' m4 t4
        exact loop 8 0 M1 0 (-1) _ (by omega) (Or.inl ⟨rfl, rfl, rfl⟩) m1 t1
    · refine oRun_ok 1 rfl ?_
      exact g_iret rfl rfl rfl (oQM.same hD ((if_neg h5).trans (if_pos h14)))
-- learn
def s_learn (D : oM) (y : Int32) : Int32 × oM := if f_Oak_isWithin y 0 999 = 0 then (vBAD, D) else if oAnyY (D K_M_now 0) y (cD (D K_M_now 0)) = true then ((sMin (fun n => sLs (D K_M_now 0) y (nI n) (cD (D K_M_now 0))) nI 8).2, D) else (vNONE, D)
theorem p_learn (M D : oM) (y : Int32) (hI : oI M D) : oCt 6 k_Oak_learn [.inr (K_OAK, 0), .inl y] M (oQC (s_learn D y) M) := by
  refine oCt.of (ls := [some (.inr (K_OAK, 0)), some (.inl y)]) mok_Oak_learn rfl rfl ?_
  refine oRun_ok 1 rfl ?_
  refine g_callS rfl rfl rfl rfl mok_Oak_isYear (by decide) (c_Oak_isYear _ _) ?_
  rintro r1 M1 ⟨rfl, e⟩; rw [e]
  refine g_if_ne rfl (fun h4 => ?_) (fun h4 => ?_)
  · refine oRun_ok 3 rfl ?_
    refine g_callV rfl rfl rfl rfl rfl mok_Land_hasYear (by decide) (c_Land_hasYear _ _ 0 y hI.ok hI.rl) ?_
    rintro r15 M15 ⟨rfl, e⟩; rw [e]
    refine g_if_ne rfl (fun h18 => ?_) (fun h18 => ?_)
    · refine oRun_ok 3 rfl ?_
      refine g_callV rfl rfl rfl rfl rfl mok_Walk_learntOf (by decide) (c_Walk_learntOf _ _ 0 y hI.ok hI.rl) ?_
      rintro r M' ⟨rfl, f⟩
      exact g_iret rfl rfl rfl (oQC.look hI ((if_neg h4).trans (if_pos (bI_ne.mp h18))) f.ws)
    · refine oRun_ok 1 rfl ?_
      exact g_iret rfl rfl rfl (oQC.same hI ((if_neg h4).trans (if_neg (by rw [bI_eq0.mp h18]; decide))))
  · refine oRun_ok 1 rfl ?_
    exact g_iret rfl rfl rfl (oQC.same hI (if_pos h4))
theorem oAnyY_cnt {N : Nat → Int32} {y : Int32} : ∀ {n : Nat}, oAnyY N y n = true ↔ 0 < sCnt (fun d => decide (N (20 + 35 * d + 2) = y)) n
  | 0 => by simp [oAnyY, sCnt]
  | n + 1 => by
    rw [oAnyY, sCnt, Bool.or_eq_true, oAnyY_cnt]
    by_cases h : N (20 + 35 * n + 2) = y
    · simp [h]
    · simp [h]
/-- the model's two numbers behind n needles, where a deed has the year -/
def oLr2 (v : Nat → Int32) (n : Nat) (b l : Int32) : Prop := (n = 0 ∧ b = -1 ∧ l = 0) ∨ (0 < n ∧ b = (sMin v nI n).2 ∧ l = (sMin v nI n).1 ∧ 0 ≤ b.toInt)
theorem oLr2_step {v : Nat → Int32} {n : Nat} {b l : Int32} (h : oLr2 v n b l) (hn : n < 1000) (hv : inR (v n) 0 100000) : oLr2 v (n + 1) (if b < 0 ∨ v n < l then nI n else b) (if b < 0 ∨ v n < l then v n else l) := by
  right
  refine ⟨by omega, ?_⟩
  rw [sMin]
  rcases h with ⟨rfl, rfl, rfl⟩ | ⟨h0, h1, h2, h3⟩
  · rw [if_pos (Or.inl (by decide)), if_pos (Or.inl (by decide)), if_pos (by
      rw [iLt]
      show (v 0).toInt < 1000000
      have := hv.2
      omega)]
    exact ⟨rfl, rfl, by decide⟩
  · have hb : ¬ b < 0 := fun z => by
      have := iLt.mp z
      rw [show (0 : Int32).toInt = 0 from rfl] at this
      omega
    by_cases y : v n < l
    · rw [if_pos (Or.inr y), if_pos (Or.inr y)]
      rw [h2] at y
      rw [if_pos y]
      exact ⟨rfl, rfl, by rw [nIt (by omega)]; omega⟩
    · have nc : ¬ (b < 0 ∨ v n < l) := fun z => z.elim hb y
      rw [if_neg nc, if_neg nc]
      rw [h2] at y
      rw [if_neg y]
      exact ⟨h1, h2, h3⟩
theorem q_learn (C M D : oM) (y : Int32) (hI : oI C D) (hD : oPs D M) : oCt 6 k_Mod_learn [.inr (K_MOD, 0), .inl y] M (oQM (s_learn D y) M) := by
  have hN := hD.now
  have hok := hI.ok
  obtain ⟨hDD, d4⟩ := oND hok
  refine oCt.of (ls := [some (.inr (K_MOD, 0)), some (.inl y), none, none, none, none, none, none]) mok_Mod_learn rfl rfl ?_
  refine oRun_ok 3 rfl ?_
  refine g_callS rfl rfl rfl rfl mok_Mod_in (by decide) (c_Mod_in _ _ _ _) ?_
  rintro r5 M5 ⟨rfl, e⟩; rw [e]
  refine g_if_ne rfl (fun h8 => ?_) (fun h8 => ?_)
  · refine oRun_ok 6 rfl ?_
    have fin : s_learn D y = if oAnyY (D K_M_now 0) y (cD (D K_M_now 0)) = true then ((sMin (fun n => sLs (D K_M_now 0) y (nI n) (cD (D K_M_now 0))) nI 8).2, D) else (vNONE, D) := if_neg h8
    generalize hNN : D K_M_now 0 = N at *
    generalize hv : (fun n : Nat => sLs N y (nI n) (cD N)) = v at fin
    have vat : ∀ n : Nat, sLs N y (nI n) (cD N) = v n := fun n => by rw [← hv]
    have outer : ∀ (q n : Nat) (M1 : oM) (b l : Int32) (x5 x6 x7 : Option oV), n + q = 8 → (oAnyY N y (cD N) = true → oLr2 v n b l) → (¬ oAnyY N y (cD N) = true → b = -1) → oMs M M1 → oG k_Mod_learn 6 21 [some (.inr (K_MOD, 0)), some (.inl y), some (.inl b), some (.inl l), some (.inl (nI n)), x5, x6, x7] [] M1 (oQM (s_learn D y) M) := by
      intro q
      induction q with
      | zero =>
        intro n M1 b l x5 x6 x7 hn hb hb2 hm
        obtain rfl : n = 8 := by omega
        refine oRun_ok 2 rfl ?_
        refine g_ic_ge rfl (fun _ => ?_) (fun z => absurd (by decide) z)
        refine oRun_ok 1 rfl ?_
        by_cases ha : oAnyY N y (cD N) = true
        · obtain ⟨-, h1, h2, h3⟩ := (hb ha).resolve_left (fun z => absurd z.1 (by decide))
          refine g_if_ge rfl (fun _ => ?_) (fun z => absurd (iLe.mpr (show (0 : Int32).toInt ≤ b.toInt from h3)) z)
          refine oRun_ok 1 rfl ?_
          exact g_iret rfl rfl rfl (oQM.look hD (by rw [fin, if_pos ha, h1]) hm)
        · rw [hb2 ha]
          refine g_if_ge rfl (fun z => absurd z (by decide)) (fun _ => ?_)
          refine oRun_ok 2 rfl ?_
          exact g_iret rfl rfl rfl (oQM.look hD (by rw [fin, if_neg ha]) hm)
      | succ q ih =>
        intro n M1 b l x5 x6 x7 hn hb hb2 hm
        refine oRun_ok 2 rfl ?_
        refine g_ic_ge rfl (fun z => ?_) (fun _ => ?_)
        · have z : nI 8 ≤ nI n := z
          rw [nIle (by omega) (by omega)] at z
          omega
        refine oRun_ok 6 rfl ?_
        have inner : ∀ (q' d : Nat) (M2 : oM), d + q' = cD N → oMs M M2 → oG k_Mod_learn 6 37 [some (.inr (K_MOD, 0)), some (.inl y), some (.inl b), some (.inl l), some (.inl (nI n)), some (.inl (nI (sCnt (fun d => decide (N (20 + 35 * d + 2) = y)) d))), some (.inl (sLs N y (nI n) d)), some (.inl (nI d))] [] M2 (oQM (s_learn D y) M) := by
          intro q'
          induction q' with
          | zero =>
            intro d M2 hd hm2
            obtain rfl : d = cD N := by omega
            refine oRun_ok 4 rfl ?_
            refine g_iald 2 rfl rfl rfl (by decide) ?_
            rw [show M2 32 0 = _ from (hm2.at (by decide) 0).trans hN, hDD]
            refine g_ic_ge rfl (fun _ => ?_) (fun z => absurd (Int32.le_refl _) z)
            have le := sCnt_le (fun d => decide (N (20 + 35 * d + 2) = y)) (cD N)
            refine oRun_ok 1 rfl ?_
            refine g_if_le rfl (fun z => ?_) (fun z => ?_)
            · have z : nI (sCnt (fun d => decide (N (20 + 35 * d + 2) = y)) (cD N)) ≤ nI 0 := z
              rw [nIle (by omega) (by omega)] at z
              have ha : ¬ oAnyY N y (cD N) = true := fun w => by
                have := oAnyY_cnt.mp w
                omega
              refine oRun_ok 2 rfl ?_
              rw [nI_1]
              exact ih (n + 1) M2 b l _ _ _ (by omega) (fun w => absurd w ha) hb2 hm2
            · have z : ¬ nI (sCnt (fun d => decide (N (20 + 35 * d + 2) = y)) (cD N)) ≤ nI 0 := z
              rw [nIle (by omega) (by omega)] at z
              have ha : oAnyY N y (cD N) = true := oAnyY_cnt.mpr (by omega)
              rw [vat n]
              have hvn : inR (v n) 0 100000 := by
                rw [← vat n]
                obtain ⟨q1, q2⟩ := sLs_rng (y := y) (nd := nI n) hok (cD N) (Nat.le_refl _)
                exact ⟨q1, by omega⟩
              have hs := oLr2_step (hb ha) (by omega) hvn
              refine oRun_ok 1 rfl ?_
              refine g_if_lt rfl (fun a => ?_) (fun a => ?_)
              · rw [if_pos (Or.inl a), if_pos (Or.inl a)] at hs
                refine oRun_ok 6 rfl ?_
                rw [nI_1]
                exact ih (n + 1) M2 _ _ _ _ _ (by omega) (fun _ => hs) (fun w => absurd ha w) hm2
              · refine oRun_ok 2 rfl ?_
                refine g_ic_ge rfl (fun c => ?_) (fun c => ?_)
                · have nc : ¬ (b < 0 ∨ v n < l) := fun w => w.elim a (fun u => Int32.not_lt.mpr c u)
                  rw [if_neg nc, if_neg nc] at hs
                  refine oRun_ok 2 rfl ?_
                  rw [nI_1]
                  exact ih (n + 1) M2 _ _ _ _ _ (by omega) (fun _ => hs) (fun w => absurd ha w) hm2
                · rw [if_pos (Or.inr (Int32.not_le.mp c)), if_pos (Or.inr (Int32.not_le.mp c))] at hs
                  refine oRun_ok 6 rfl ?_
                  rw [nI_1]
                  exact ih (n + 1) M2 _ _ _ _ _ (by omega) (fun _ => hs) (fun w => absurd ha w) hm2
          | succ q' ih' =>
            intro d M2 hd hm2
            have hd' : d < cD N := by omega
            have en : M2 K_M_now 0 = N := (hm2.at (by decide) 0).trans hN
            obtain ⟨hC, c10⟩ := oNC (hok.2.2.2.2.1 d hd')
            refine oRun_ok 4 rfl ?_
            refine g_iald 2 rfl rfl rfl (by decide) ?_
            rw [show M2 32 0 = _ from en, hDD]
            refine g_ic_ge rfl (fun z => ?_) (fun _ => ?_)
            · rw [nIle (by omega) (by omega)] at z
              omega
            refine oRun_ok 3 rfl ?_
            refine g_callV rfl rfl rfl rfl rfl mok_Mod_of (by decide) (c_Mod_of _ d 2 (by omega) (by decide)) ?_
            rintro r N1 ⟨rfl, e⟩; rw [e, en]
            refine oRun_ok 1 rfl ?_
            have le := sCnt_le (fun d => decide (N (20 + 35 * d + 2) = y)) d
            refine g_ic_ne rfl (fun z => ?_) (fun z => ?_)
            · have ih2 := ih' (d + 1) M2 (by omega) hm2
              rw [sCnt, sLs, if_neg (c := N (20 + 35 * d + 2) = y) z, decide_eq_false z] at ih2
              refine oRun_ok 2 rfl ?_
              rw [nI_1]
              exact ih2
            · refine oRun_ok 2 rfl ?_
              refine g_callV rfl rfl rfl rfl rfl mok_Mod_takeCalls (by decide) (c_Mod_takeCalls _ N d en hok hd') ?_
              rintro r3 M3 ⟨rfl, a7, ao, aa, af⟩
              have m3 := hm2.tr (oMs_mt af ao)
              have t3 : oTk N d (M3 K_M_kinds 0) (M3 K_M_ways 0) (M3 K_M_lengths 0) (M3 K_MOD 0 7) := ⟨a7, aa⟩
              refine oRun_ok 6 rfl ?_
              refine g_callV rfl rfl rfl rfl rfl mok_Mod_chainOf (by decide) (c_Mod_chainOf _ N d ((m3.at (by decide) 0).trans hN) hok hd') ?_
              rintro r4 M4 ⟨rfl, f4⟩
              have m4 := m3.tr (oMs_ml f4)
              have t4 := taken_ml f4 t3
              refine g_callV rfl rfl rfl rfl rfl mok_Mod_walks (by decide) (c_Mod_walks _ N d (cC N d) _ _ ((m4.at (by decide) 0).trans hN) hok hd' t4.1 c10) ?_
              rintro r5 M5 ⟨rfl, -, f5⟩
              have m5 := m4.tr (oMs_mw f5)
              rw [gap_eq t4.2]
              have ih2 := ih' (d + 1) M5 (by omega) m5
              rw [sCnt, sLs, if_pos (c := N (20 + 35 * d + 2) = y) z, decide_eq_true z, if_pos rfl] at ih2
              refine oRun_ok 5 rfl ?_
              rw [nI_1, nI_1]
              exact ih2
        exact inner (cD N) 0 M1 (by omega) hm
    exact outer 8 0 M (-1) 0 _ _ _ (by omega) (fun _ => Or.inl ⟨rfl, rfl, rfl⟩) (fun _ => rfl) oMs.rf
  · refine oRun_ok 1 rfl ?_
    exact g_iret rfl rfl rfl (oQM.same hD (if_pos h8))

