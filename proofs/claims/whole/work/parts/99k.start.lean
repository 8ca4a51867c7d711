/-! ===== from the entry to the end ===== -/
theorem yEn_of {E : oE} {h nL : Nat} {la : Array Slot} (h0 : oad E K_OAK 0 = h + 0) (h1 : oad E K_MOD 0 = h + 123) (hv : lv_has la nL (yLs E h [some (.inr (some 0)), some (.inr (some 1)), some (.inr (some 124)), some (.inl 0)])) : lv_has la nL (oEn E 0 [some (.inr (K_SCR, 0)), some (.inr (K_OAK, 0)), some (.inr (K_MOD, 0)), some (.inl 0)]) := by
  have e : oEn E 0 [some (.inr (K_SCR, 0)), some (.inr (K_OAK, 0)), some (.inr (K_MOD, 0)), some (.inl 0)] = yLs E h [some (.inr (some 0)), some (.inr (some 1)), some (.inr (some 124)), some (.inl 0)] := by
    show [(0, oRfv E K_SCR 0), (1, oRfv E K_OAK 0), (2, oRfv E K_MOD 0), (3, Value.int 0)] = [(0, Value.ref (oad E K_SCR 0)), (1, Value.ref (h + 0)), (2, Value.ref (h + 123)), (3, Value.int 0)]
    rw [← h0, ← h1]
    rfl
  rw [e]
  exact hv
theorem yLaw_ini : oIni k_Law_law = false := by decide
/-- the law's part: from the entry, for every script of at most 384 ints, it comes to its end with true -/
theorem whole_start {p : Program} {e : Env} {s : State} {m : MethodId} {below : List Frame} {meth : Method} {c : Code} (l : Launch) (hflags : l.flags = flags0) {b L : Nat} {xs : Nat → Int32} (hL : L ≤ 384) (C0 : lw_At p s m meth c b L xs) : W p l e room_1 s m #[Value.ref b] below meth c s.heap [] 0 0 (lw_Z below #[Value.ref b] s) (entryFrame m ([Value.ref b] : List Value).toArray 4) := by
  obtain ⟨hx, hb, hr, hml, hown, htb, hX, hbl, hlocks, hgv⟩ := C0
  have hts : ∀ w ∈ oGT, w.before #[Value.ref b] s = true := fun w hw => htb w (oGT_tbl hw)
  have ht1 : ∀ w ∈ tables_1, w.before #[Value.ref b] s = true := fun w hw => htb w (List.mem_append_right _ hw)
  have hfc : ∀ w ∈ yFC, w.before #[Value.ref b] s = true := flat_of_before _ hgv
  have hNW : ∀ w ∈ oNW, va_Nw w s := fun w hw => va_Nw.of (oNW_tables w hw) (htb w (yNW_in w hw))
  have hAO : yAO s := by
    refine ⟨fun e he => ?_, ?_⟩
    · have := List.all_eq_true.mp yATs_ok e he
      simp only [Bool.and_eq_true, decide_eq_true_eq] at this
      exact va_AO.of (ht1 _ (List.mem_of_getElem? this.2))
    · exact ht1 (.arrayOver (.array .int)) (List.mem_of_getElem? (i := yPs.2.2.2.2.2.2.1) (by decide +kernel))
  have hA : ∀ a : Nat, a < s.heap.size → ¬ (fun q => s.heap.size ≤ q) a := fun a ha hz => absurd ha (Nat.not_lt.mpr hz)
  obtain ⟨D, hD⟩ := yG_classes (args := #[Value.ref b]) hts
  obtain ⟨cA, hcA⟩ := yG_arrays (args := #[Value.ref b]) hts hAO
  obtain ⟨adT, hT⟩ := yG_tabs (A := fun q => s.heap.size ≤ q) ht1 hfc hA
  obtain ⟨adK, adV, hSt, hSR⟩ := yG_strs (A := fun q => s.heap.size ≤ q) ht1 hfc hA
  obtain ⟨hZ1, ov, hZ2, hov⟩ := yG_stat (A := fun q => s.heap.size ≤ q) ht1 hfc hA
  obtain ⟨E, hE⟩ : ∃ E, E = yE D s.heap.size b cA L xs ov adT adK adV := ⟨_, rfl⟩
  have eD : E.1 = D := by rw [hE]; rfl
  have hK : va_K E.1 vwCl (otys E) s := by
    rw [hE]
    exact ⟨hD, hcA⟩
  have hRO : oRO E (fun q => s.heap.size ≤ q) s s.heap := by
    rw [hE]
    refine ⟨hX, ⟨hbl, hA b hbl⟩, fun i hi => (hT i hi).1, fun i hi => (hT i hi).2, hSt, hZ1, hZ2, hov, fun i hi => hSR i hi⟩
  have XX : yX k_Law_law E p s m #[Value.ref b] meth c := ⟨hx, hb, hml, hown, hts, hK, hNW, hAO, yLaw_dec, fun z => by rw [yLaw_ini] at z; cases z⟩
  have CC : oCX k_Law_law (fun q => s.heap.size ≤ q) p s m #[Value.ref b] meth c E := ⟨hx, hb, hml, hr, hlocks, hown, hts, hK, hRO, hNW, by rw [hE]; exact yE_inj, fun q hq => by rw [hE] at hq; exact yE_A hq, yLaw_dec⟩
  have run := y_ev yMul_ok 400 6 k_Law_law 0 _ [] [] _ yEv_law
  have hl := lv_entry ([Value.ref b]) (n := 4) (Nat.le_of_ble_eq_true rfl)
  rw [lg_entry_eq]
  refine run.2 (E := E) (h := s.heap.size) (B := 0) (S := 0) XX (by decide) (by decide) ⟨?_, ?_⟩ ?_ s.heap [] _ 0 0 ⟨rfl, fun o x hx => by simp at hx⟩ va_S.rf rfl rfl ?_ rfl
  · dsimp only
    rw [yW0_len.1]
    decide
  · dsimp only
    exact Nat.le_trans (Nat.le_of_ble_eq_true yW0_len.2) (by decide)
  · intro H locs la cs sl hR hS hcs hsl hv hlen
    dsimp only at hR hcs hsl hv
    have c1 : cs ≤ 600000 := by rw [yW0_len.1] at hcs; omega
    have c2 : sl ≤ 7302250 := by have := Nat.le_of_ble_eq_true yW0_len.2; omega
    refine lw_all xs L (by omega) (fun q => s.heap.size ≤ q) p l e room_1 s m #[Value.ref b] below meth c E H locs la cs sl _ CC ?_ ⟨by decide, by decide, c1, c2⟩ hS ⟨?_, ?_⟩ ?_ (fun v hv => by cases hv) ?_ rfl
    · intro r M H1 locs1 pc1 la1 hq hP hS1 hret
      subst hq
      obtain ⟨hd, -⟩ := hret
      intro T hT1 X1
      have X2 := stand_widen (Stand.dropFresh (locs := []) (J := locs1) X1 hS1.2.2) c1 c2
      exact lw_ret hx hb hr hlocks hd T hT1 X2
    · rw [hE] at hR ⊢
      exact yRep hR
    · rw [hE]
      exact ⟨rfl, hL, fun j hj => rfl⟩
    · refine yEn_of ?_ ?_ hv
      · rw [hE]; rfl
      · rw [hE]; rfl
    · intro v hv
      rcases List.mem_cons.mp hv with h | hv
      · cases h; exact (by decide : 0 < oCnt K_SCR)
      rcases List.mem_cons.mp hv with h | hv
      · cases h; exact (by decide : 0 < oCnt K_OAK)
      rcases List.mem_cons.mp hv with h | hv
      · cases h; exact (by decide : 0 < oCnt K_MOD)
      rcases List.mem_cons.mp hv with h | hv
      · cases h; trivial
      cases hv
  · refine ⟨hl.1, hl.2.1, fun q hq => hl.2.2 q ?_⟩
    have hq' : q ∈ [(0, Value.ref (oad E K_SCR 0))] := hq
    rw [List.mem_singleton.mp hq', hE]
    exact lv_args_mem [Value.ref b] 0 0 (Value.ref b) (fun v hv => by rw [List.mem_singleton.mp hv]; rfl) rfl
