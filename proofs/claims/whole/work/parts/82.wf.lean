/-! ## what is read may be worked out -/
def dpF (h : Option Nat) (v : Int32) : Option Nat := match h with
  | none => none
  | some h => if 0 ≤ v then some (h + 1) else if v = -10 then (if 1 ≤ h then some h else none) else if 2 ≤ h then some (h - 1) else none
theorem oDp_s (c : Nat → Int32) (k : Nat) : oDp c (k + 1) = dpF (oDp c k) (c k) := rfl
theorem oDp_list (L : List Int32) (c : Nat → Int32) (h : ∀ k, k < L.length → c k = L.getD k 0) : ∀ k, k ≤ L.length → oDp c k = (L.take k).foldl dpF (some 0)
  | 0, _ => rfl
  | k + 1, hk => by
    rw [oDp_s, oDp_list L c h k (by omega), h k (by omega), List.take_succ_eq_append_getElem (by omega), List.foldl_append]
    rw [List.getD_eq_getElem?_getD, List.getElem?_eq_getElem (by omega)]
    rfl
theorem sNum_ok (f : Nat → Int32) (a : Nat) : ∀ k, k ≤ 4 → (∀ j, a ≤ j → j < a + k → srt (f j) = 2) → ∃ m, sNum f a k = nI m ∧ m < 10 ^ k
  | 0, _, _ => ⟨0, rfl, by decide⟩
  | k + 1, hk, hd => by
    obtain ⟨m, e, hm⟩ := sNum_ok f a k (by omega) (fun j h1 h2 => hd j h1 (by omega))
    have h2 := srt_2.mp (hd (a + k) (by omega) (by omega))
    have h10 : 10 ^ k ≤ 1000 := by
      match k, hk with
      | 0, _ => decide
      | 1, _ => decide
      | 2, _ => decide
      | 3, _ => decide
    have hv := inR_nI (v := f (a + k)) (n := 57) ⟨by have := Int32.le_iff_toInt_le.mp h2.1; have e : (48 : Int32).toInt = 48 := rfl; omega, by have := Int32.le_iff_toInt_le.mp h2.2; have e : (57 : Int32).toInt = 57 := rfl; omega⟩ (by decide)
    have h48 : 48 ≤ (f (a + k)).toNatClampNeg := by
      have h3 := h2.1
      rw [hv.1] at h3
      exact (nIle (a := 48) (by omega) (by omega)).mp h3
    refine ⟨10 * m + ((f (a + k)).toNatClampNeg - 48), ?_, ?_⟩
    · show 10 * sNum f a k + f (a + k) - 48 = _
      rw [e, hv.1, show (10 : Int32) = nI 10 from rfl, show (48 : Int32) = nI 48 from rfl, nI_times, nI_plus, nIsub (by omega)]
      rw [← hv.1]
      congr 1
      omega
    · have := hv.2
      rw [Nat.pow_succ]
      omega
def cOk (key : Nat) (c : Int32) : Prop := oTr (nI key) c = some (trC key c) ∧ inR (trC key c) (-10) (10000 + key)
def wOk (key : Nat) (R : Rs) : Prop := R.1 = true → (∀ h, (R.2.2.1.map (trC key)).foldl dpF (some h) = some (h + 1)) ∧ ∀ c ∈ R.2.2.1, cOk key c
theorem tr_lit {key : Nat} {c v : Int32} (h : oTr (nI key) c = some v) : trC key c = v := by
  unfold trC
  rw [h]
  rfl
theorem cOk_of {key : Nat} {c v : Int32} (h : oTr (nI key) c = some v) (hi : inR v (-10) (10000 + key)) : cOk key c := by
  unfold cOk
  rw [tr_lit h]
  exact ⟨h, hi⟩
theorem w_one {key : Nat} {c v : Int32} (h : oTr (nI key) c = some v) (hi : inR v (-10) (10000 + key)) (h0 : 0 ≤ v) (a : Bool) (u : Tk) (A : Nat) : wOk key (a, u, [c], A) := fun _ => by
  refine ⟨fun k => ?_, fun x hx => ?_⟩
  · show dpF (some k) (trC key c) = _
    rw [tr_lit h]
    exact if_pos h0
  · rw [List.mem_singleton.mp hx]
    exact cOk_of h hi
theorem pA_w {f : Nat → Int32} {n key : Nat} {t : Tk} (hk : key < 3) (hv : Tv f n t) : wOk key (pA f n key t) := by
  by_cases h2 : t.1 = 2
  · rw [pA_2 h2]
    obtain ⟨-, b2, b3⟩ := hv.2.2.2.2.2.2.2 h2
    obtain ⟨m, e, hm⟩ := sNum_ok f t.2.1 (t.2.2 - t.2.1) b2 (fun j a b => b3 j a (by omega))
    have h10 : 10 ^ (t.2.2 - t.2.1) ≤ 10000 := Nat.pow_le_pow_right (n := 10) (by decide) b2
    have h0 : (0 : Int32) ≤ nI m := (nIle (a := 0) (by omega) (by omega)).mpr (Nat.zero_le _)
    rw [e]
    have hi : (nI m).toInt = m := nIt (by omega)
    exact w_one (v := nI m) ((if_pos h0).trans (if_pos ((nIle (b := 9999) (by omega) (by omega)).mpr (by omega)))) ⟨by omega, by omega⟩ h0 _ _ _
  · by_cases h3 : isNm f key t
    · rw [pA_n h2 h3]
      rcases h3.2 with ⟨y1, y2⟩ | y | ⟨y1, y2 | y2⟩
      · rw [y2, y1]
        exact w_one (v := 10001) rfl ⟨by decide, by decide⟩ (by decide) _ _ _
      · rw [y]
        exact w_one (v := 10000) rfl ⟨by decide, by have : (10000 : Int32).toInt = 10000 := rfl; omega⟩ (by decide) _ _ _
      · rw [y2, y1]
        exact w_one (v := 10001) rfl ⟨by decide, by decide⟩ (by decide) _ _ _
      · rw [y2, y1]
        exact w_one (v := 10002) rfl ⟨by decide, by decide⟩ (by decide) _ _ _
    · rw [pA_no h2 h3]
      exact fun z => by cases z
theorem op_lit {f : Nat → Int32} {key lev : Nat} {t : Tk} (h : jn f lev t = true) : ∃ v, oTr (nI key) (-(f t.2.1)) = some v ∧ inR v (-9) (-1) := by
  have s : ∀ c, sgn f t c = true → f t.2.1 = c := fun c hc => (of_decide_eq_true hc).2
  unfold jn at h
  split at h
  · rw [s _ h]; exact ⟨-1, rfl, by decide, by decide⟩
  · rw [s _ h]; exact ⟨-2, rfl, by decide, by decide⟩
  · rw [Bool.or_eq_true, Bool.or_eq_true] at h
    rcases h with h | h | h
    · rw [s _ h]; exact ⟨-3, rfl, by decide, by decide⟩
    · rw [s _ h]; exact ⟨-4, rfl, by decide, by decide⟩
    · rw [s _ h]; exact ⟨-5, rfl, by decide, by decide⟩
  · rw [Bool.or_eq_true] at h
    rcases h with h | h
    · rw [s _ h]; exact ⟨-6, rfl, by decide, by decide⟩
    · rw [s _ h]; exact ⟨-7, rfl, by decide, by decide⟩
  · rw [Bool.or_eq_true] at h
    rcases h with h | h
    · rw [s _ h]; exact ⟨-8, rfl, by decide, by decide⟩
    · rw [s _ h]; exact ⟨-9, rfl, by decide, by decide⟩
theorem pJ_w {f : Nat → Int32} {n key : Nat} {g : Tk → Rs} {lev : Nat} (hv : ∀ u, Tv f n u → Rv f n u (g u)) (hg : ∀ u, Tv f n u → wOk key (g u)) : ∀ (m : Nat) (r : Rs), Tv f n r.2.1 → r.1 = true → wOk key r → wOk key (pJ f n g lev m r)
  | 0, r, _, _, h => h
  | m + 1, r, hr, ho, h => by
    unfold pJ
    by_cases hj : jn f lev r.2.1 = true
    rotate_left
    · rw [if_neg hj]; exact h
    rw [if_pos hj]
    have hnv := nxT_v (f := f) (t := r.2.1) hr.2.1
    by_cases hs : (g (nxT f n r.2.1)).1 = true
    rotate_left
    · rw [if_neg hs]; exact fun z => by cases z
    rw [if_pos hs]
    obtain ⟨a1, a2⟩ := h ho
    obtain ⟨b1, b2⟩ := hg _ hnv.1 hs
    obtain ⟨v, e, v1, v2⟩ := op_lit (key := key) hj
    have q : ∀ k, dpF (some (k + 1 + 1)) v = some (k + 1) := fun k => by
      have n0 : ¬ (0 : Int32) ≤ v := fun z => by
        have := iLe.mp z
        have e0 : (0 : Int32).toInt = 0 := rfl
        omega
      have n1 : ¬ v = -10 := fun z => by
        have := iEq.mp z
        have e0 : (-10 : Int32).toInt = -10 := rfl
        omega
      exact (if_neg n0).trans ((if_neg n1).trans (if_pos (by omega)))
    refine pJ_w hv hg m _ (hv _ hnv.1).1 rfl (fun _ => ⟨fun k => ?_, fun c hc => ?_⟩)
    · show (List.map (trC key) (r.2.2.1 ++ (g (nxT f n r.2.1)).2.2.1 ++ [-(f r.2.1.2.1)])).foldl dpF (some k) = _
      rw [List.map_append, List.map_append, List.foldl_append, List.foldl_append, a1, b1]
      show dpF (some (k + 1 + 1)) (trC key (-(f r.2.1.2.1))) = _
      rw [tr_lit e]
      exact q k
    · rcases List.mem_append.mp hc with hc | hc
      · rcases List.mem_append.mp hc with hc | hc
        · exact a2 c hc
        · exact b2 c hc
      · rw [List.mem_singleton.mp hc]
        exact cOk_of e ⟨by omega, by omega⟩
theorem pL_w {f : Nat → Int32} {n key : Nat} (hk : key < 3) : ∀ (d lev p q : Nat) (t : Tk), Tv f n t → wOk key (pL f n key d lev p q t)
  | 0, lev, p, q, t, h => fun z => by cases z
  | d + 1, lev, p, q, t, h => by
    unfold pL
    have hnv := nxT_v (f := f) (t := t) h.2.1
    by_cases h5 : lev < 5
    · rw [if_pos h5]
      have ih := pL_w hk d (lev + 1) p q t h
      by_cases hr : (pL f n key d (lev + 1) p q t).1 = true
      · rw [if_pos hr]
        exact pJ_w (fun u hu => pL_v d (lev + 1) p q u hu) (fun u hu => pL_w hk d (lev + 1) p q u hu) _ _ (pL_v d (lev + 1) p q t h).1 hr ih
      · rw [if_neg hr]
        exact ih
    · rw [if_neg h5]
      by_cases h1 : sgn f t 33 = true ∧ q < 8
      · rw [if_pos h1]
        have ih := pL_w hk d 5 p (q + 1) (nxT f n t) hnv.1
        intro z
        obtain ⟨a1, a2⟩ := ih z
        refine ⟨fun k => ?_, fun c hc => ?_⟩
        · show (List.map (trC key) ((pL f n key d 5 p (q + 1) (nxT f n t)).2.2.1 ++ [-33])).foldl dpF (some k) = _
          rw [List.map_append, List.foldl_append, a1]
          show dpF (some (k + 1)) (-10) = _
          show (if (0 : Int32) ≤ -10 then some (k + 1 + 1) else if (-10 : Int32) = -10 then (if 1 ≤ k + 1 then some (k + 1) else none) else if 2 ≤ k + 1 then some (k + 1 - 1) else none) = some (k + 1)
          rw [if_neg (by decide), if_pos rfl, if_pos (by omega)]
        · rcases List.mem_append.mp hc with hc | hc
          · exact a2 c hc
          · rw [List.mem_singleton.mp hc]
            exact cOk_of (v := -10) rfl ⟨by decide, by have : (-10 : Int32).toInt = -10 := rfl; omega⟩
      · rw [if_neg h1]
        by_cases h2 : sgn f t 40 = true ∧ p < 8
        · rw [if_pos h2]
          have ih := pL_w hk d 0 (p + 1) q (nxT f n t) hnv.1
          by_cases h3 : (pL f n key d 0 (p + 1) q (nxT f n t)).1 = true ∧ sgn f (pL f n key d 0 (p + 1) q (nxT f n t)).2.1 41 = true
          · rw [if_pos h3]
            exact fun _ => ih h3.1
          · rw [if_neg h3]
            exact fun z => by cases z
        · rw [if_neg h2]
          exact pA_w hk h

