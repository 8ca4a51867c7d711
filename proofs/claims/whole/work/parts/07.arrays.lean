/-! ===== rules: arrays, statics, strings, ends ===== -/
section RULES
variable {k d pc nx tg : Nat} {ls : List (Option oV)} {st : List oV} {M : oM} {Q : Option Int32 → oM → Prop}
theorem otys_at (E : oE) : (otys E)[0]? = some (ocA E 0, .int) ∧ (otys E)[1]? = some (ocA E 1, .boolean) ∧ (otys E)[2]? = some (ocA E 2, .char) := ⟨rfl, rfl, rfl⟩
theorem oEnt_arr {E : oE} {kd ty n i : Nat} (h : oKD kd = .inr (ty, n, none)) (M : oM) : oEnt E M kd i = .inl (ocA E ty, n, .inl (M kd i)) := by unfold oEnt; rw [h]; rfl
theorem g_iald (j : Nat) {kd i n : Nat} {x : Int32} (hf : oFt k pc = some (.iaload, nx, tg)) (hk : oKD kd = .inr (0, n, none)) (hx : x = nI j) (hj : j < n) (kk : oG k d nx ls (.inl (M kd i j) :: st) M Q) : oG k d pc ls (.inl x :: .inr (kd, i) :: st) M Q := by
  intro A p l e R s m args below meth c E H locs la cs sl Z C hE hR hS hP hlv h1 h2 h3
  obtain ⟨h4, rfl⟩ := oFt_dec (n := 0) hf rfl C.2.2.2.2.2.2.2.2.2.2.2.2
  have hkd := oKD_lt hk
  have hi : i < oCnt kd := h1 _ (List.mem_cons_of_mem _ List.mem_cons_self)
  obtain ⟨q0, hq0⟩ := oPK_at hkd hi
  have hw := oWS_at (E := E) (M := M) hq0
  rw [oEnt_arr hk] at hw
  have hn := (oKD_arr hk).1
  subst hx
  have hin : vp_in (nI j) n := vp_in_nI hj (by omega)
  rw [List.map_cons, List.map_cons]
  show W p l e R s m args below meth c H locs cs sl Z (F0 m pc la (.int (nI j) :: oRfv E kd i :: _))
  rw [oRfv_ref hkd]
  refine va_iald C.1 C.2.1 C.2.2.2.2.2.2.2.1 hP.1 q0 0 hw rfl hin h4 ?_
  rw [nI_clamp (by omega)]
  exact kk A p l e R s m args below meth c E H locs la cs sl Z C hE hR hS hP hlv (oOk_int (oOk_tl (oOk_tl h1))) h2 h3
theorem g_zald (j : Nat) {kd i n : Nat} {x : Int32} (hf : oFt k pc = some (.baload, nx, tg)) (hk : oKD kd = .inr (1, n, none)) (hx : x = nI j) (hj : j < n) (kk : oG k d nx ls (.inl (M kd i j) :: st) M Q) : oG k d pc ls (.inl x :: .inr (kd, i) :: st) M Q := by
  intro A p l e R s m args below meth c E H locs la cs sl Z C hE hR hS hP hlv h1 h2 h3
  obtain ⟨h4, rfl⟩ := oFt_dec (n := 0) hf rfl C.2.2.2.2.2.2.2.2.2.2.2.2
  have hkd := oKD_lt hk
  have hi : i < oCnt kd := h1 _ (List.mem_cons_of_mem _ List.mem_cons_self)
  obtain ⟨q0, hq0⟩ := oPK_at hkd hi
  have hw := oWS_at (E := E) (M := M) hq0
  rw [oEnt_arr hk] at hw
  have hn := (oKD_arr hk).1
  subst hx
  have hin : vp_in (nI j) n := vp_in_nI hj (by omega)
  rw [List.map_cons, List.map_cons]
  show W p l e R s m args below meth c H locs cs sl Z (F0 m pc la (.int (nI j) :: oRfv E kd i :: _))
  rw [oRfv_ref hkd]
  refine va_zald C.1 C.2.1 C.2.2.2.2.2.2.2.1 hP.1 q0 1 hw rfl hin h4 ?_
  rw [nI_clamp (by omega)]
  exact kk A p l e R s m args below meth c E H locs la cs sl Z C hE hR hS hP hlv (oOk_int (oOk_tl (oOk_tl h1))) h2 h3
theorem g_cald (j : Nat) {kd i n : Nat} {x : Int32} (hf : oFt k pc = some (.caload, nx, tg)) (hk : oKD kd = .inr (2, n, none)) (hx : x = nI j) (hj : j < n) (kk : oG k d nx ls (.inl (M kd i j) :: st) M Q) : oG k d pc ls (.inl x :: .inr (kd, i) :: st) M Q := by
  intro A p l e R s m args below meth c E H locs la cs sl Z C hE hR hS hP hlv h1 h2 h3
  obtain ⟨h4, rfl⟩ := oFt_dec (n := 0) hf rfl C.2.2.2.2.2.2.2.2.2.2.2.2
  have hkd := oKD_lt hk
  have hi : i < oCnt kd := h1 _ (List.mem_cons_of_mem _ List.mem_cons_self)
  obtain ⟨q0, hq0⟩ := oPK_at hkd hi
  have hw := oWS_at (E := E) (M := M) hq0
  rw [oEnt_arr hk] at hw
  have hn := (oKD_arr hk).1
  subst hx
  have hin : vp_in (nI j) n := vp_in_nI hj (by omega)
  rw [List.map_cons, List.map_cons]
  show W p l e R s m args below meth c H locs cs sl Z (F0 m pc la (.int (nI j) :: oRfv E kd i :: _))
  rw [oRfv_ref hkd]
  refine va_cald C.1 C.2.1 C.2.2.2.2.2.2.2.1 hP.1 q0 2 hw rfl hin h4 ?_
  rw [nI_clamp (by omega)]
  exact kk A p l e R s m args below meth c E H locs la cs sl Z C hE hR hS hP hlv (oOk_int (oOk_tl (oOk_tl h1))) h2 h3
theorem oUp_fun {kd i j : Nat} {v : Int32} : oUp M kd i j v kd i = upd (M kd i) j v := by
  rw [oUp_at]
  rfl
theorem g_iast (j : Nat) {kd i n : Nat} {x v : Int32} (hf : oFt k pc = some (.iastore, nx, tg)) (hk : oKD kd = .inr (0, n, none)) (hx : x = nI j) (hj : j < n) (kk : oG k d nx ls st (oUp M kd i j v) Q) : oG k d pc ls (.inl v :: .inl x :: .inr (kd, i) :: st) M Q := by
  intro A p l e R s m args below meth c E H locs la cs sl Z C hE hR hS hP hlv h1 h2 h3
  obtain ⟨h4, rfl⟩ := oFt_dec (n := 0) hf rfl C.2.2.2.2.2.2.2.2.2.2.2.2
  have hkd := oKD_lt hk
  have hi : i < oCnt kd := h1 _ (List.mem_cons_of_mem _ (List.mem_cons_of_mem _ List.mem_cons_self))
  obtain ⟨q0, hq0⟩ := oPK_at hkd hi
  have hw := oWS_at (E := E) (M := M) hq0
  rw [oEnt_arr hk] at hw
  have hn := (oKD_arr hk).1
  subst hx
  have hin : vp_in (nI j) n := vp_in_nI hj (by omega)
  rw [List.map_cons, List.map_cons, List.map_cons]
  show W p l e R s m args below meth c H locs cs sl Z (F0 m pc la (.int v :: .int (nI j) :: oRfv E kd i :: _))
  rw [oRfv_ref hkd]
  have hD : va_D A (oWS E M) := (oWS_D C.2.2.2.2.2.2.2.2.2.2.1).weaken (fun _ q _ h => C.2.2.2.2.2.2.2.2.2.2.2.1 q.1 h)
  refine va_iast C.1 C.2.1 C.2.2.2.2.2.2.2.1 hP.1 hD hS q0 0 hw rfl hin h4 (fun H1 locs1 hP1 hD1 hS1 => ?_)
  rw [nI_clamp (by omega), ← oUp_fun, ← oEnt_arr hk, oWS_set hq0 (fun k' i' hne => oUp_ne hne)] at hP1
  exact kk A p l e R s m args below meth c E H1 locs1 la cs sl Z C hE hR hS1 ⟨hP1, oScr_up hkd hP.2⟩ hlv (oOk_tl (oOk_tl (oOk_tl h1))) h2 h3
theorem g_zast (j : Nat) {kd i n : Nat} {x v : Int32} (hf : oFt k pc = some (.bastore, nx, tg)) (hk : oKD kd = .inr (1, n, none)) (hx : x = nI j) (hj : j < n) (hv : vp_nar .boolean v = v) (kk : oG k d nx ls st (oUp M kd i j v) Q) : oG k d pc ls (.inl v :: .inl x :: .inr (kd, i) :: st) M Q := by
  intro A p l e R s m args below meth c E H locs la cs sl Z C hE hR hS hP hlv h1 h2 h3
  obtain ⟨h4, rfl⟩ := oFt_dec (n := 0) hf rfl C.2.2.2.2.2.2.2.2.2.2.2.2
  have hkd := oKD_lt hk
  have hi : i < oCnt kd := h1 _ (List.mem_cons_of_mem _ (List.mem_cons_of_mem _ List.mem_cons_self))
  obtain ⟨q0, hq0⟩ := oPK_at hkd hi
  have hw := oWS_at (E := E) (M := M) hq0
  rw [oEnt_arr hk] at hw
  have hn := (oKD_arr hk).1
  subst hx
  have hin : vp_in (nI j) n := vp_in_nI hj (by omega)
  rw [List.map_cons, List.map_cons, List.map_cons]
  show W p l e R s m args below meth c H locs cs sl Z (F0 m pc la (.int v :: .int (nI j) :: oRfv E kd i :: _))
  rw [oRfv_ref hkd]
  have hD : va_D A (oWS E M) := (oWS_D C.2.2.2.2.2.2.2.2.2.2.1).weaken (fun _ q _ h => C.2.2.2.2.2.2.2.2.2.2.2.1 q.1 h)
  refine va_zast C.1 C.2.1 C.2.2.2.2.2.2.2.1 hP.1 hD hS q0 1 hw rfl hin h4 (fun H1 locs1 hP1 hD1 hS1 => ?_)
  rw [nI_clamp (by omega), hv, ← oUp_fun, ← oEnt_arr hk, oWS_set hq0 (fun k' i' hne => oUp_ne hne)] at hP1
  exact kk A p l e R s m args below meth c E H1 locs1 la cs sl Z C hE hR hS1 ⟨hP1, oScr_up hkd hP.2⟩ hlv (oOk_tl (oOk_tl (oOk_tl h1))) h2 h3
theorem g_alen {kd i ty n : Nat} {v : Int32} {r : Option (Nat × Nat)} (hf : oFt k pc = some (.arraylength, nx, tg)) (hk : oKD kd = .inr (ty, n, r)) (hty : Nat.blt ty 8 = true) (hv : v = Int32.ofNat n) (kk : oG k d nx ls (.inl v :: st) M Q) : oG k d pc ls (.inr (kd, i) :: st) M Q := by
  intro A p l e R s m args below meth c E H locs la cs sl Z C hE hR hS hP hlv h1 h2 h3
  obtain ⟨h4, rfl⟩ := oFt_dec (n := 0) hf rfl C.2.2.2.2.2.2.2.2.2.2.2.2
  have hkd := oKD_lt hk
  have hi : i < oCnt kd := h1 _ List.mem_cons_self
  obtain ⟨q0, hq0⟩ := oPK_at hkd hi
  have hw := oWS_at (E := E) (M := M) hq0
  have hty8 : ty < 8 := Nat.le_of_ble_eq_true hty
  have ht : ∃ t, (otys E)[ty]? = some (ocA E ty, t) := by
    match ty, hty8 with
    | 0, _ => exact ⟨_, rfl⟩
    | 1, _ => exact ⟨_, rfl⟩
    | 2, _ => exact ⟨_, rfl⟩
    | 3, _ => exact ⟨_, rfl⟩
    | 4, _ => exact ⟨_, rfl⟩
    | 5, _ => exact ⟨_, rfl⟩
    | 6, _ => exact ⟨_, rfl⟩
    | 7, _ => exact ⟨_, rfl⟩
  obtain ⟨t, ht⟩ := ht
  have he : ∃ x : vp_A, oEnt E M kd i = .inl (ocA E ty, x) ∧ x.1 = n := by
    unfold oEnt
    rw [hk]
    rcases r with _ | ⟨k', a⟩
    · exact ⟨_, rfl, rfl⟩
    · exact ⟨_, rfl, rfl⟩
  obtain ⟨x, he, hxn⟩ := he
  rw [he] at hw
  rw [List.map_cons]
  show W p l e R s m args below meth c H locs cs sl Z (F0 m pc la (oRfv E kd i :: _))
  rw [oRfv_ref hkd]
  exact va_alen C.1 C.2.1 C.2.2.2.2.2.2.2.1 hP.1 q0 ty hw ht (v := v) (by rw [hxn, hv]) h4 (kk A p l e R s m args below meth c E H locs la cs sl Z C hE hR hS hP hlv (oOk_int (oOk_tl h1)) h2 h3)
theorem g_aald (j : Nat) {kd i ty n k' a t : Nat} {x : Int32} (hf : oFt k pc = some (.aaload, nx, tg)) (hk : oKD kd = .inr (ty, n, some (k', a))) (hx : x = nI j) (hj : j < n) (ht : t = a * i + j) (kk : oG k d nx ls (.inr (k', t) :: st) M Q) : oG k d pc ls (.inl x :: .inr (kd, i) :: st) M Q := by
  intro A p l e R s m args below meth c E H locs la cs sl Z C hE hR hS hP hlv h1 h2 h3
  obtain ⟨h4, rfl⟩ := oFt_dec (n := 0) hf rfl C.2.2.2.2.2.2.2.2.2.2.2.2
  have hkd := oKD_lt hk
  have hi : i < oCnt kd := h1 _ (List.mem_cons_of_mem _ List.mem_cons_self)
  obtain ⟨q0, hq0⟩ := oPK_at hkd hi
  have hw := oWS_at (E := E) (M := M) hq0
  have he : oEnt E M kd i = .inl (ocA E ty, n, .inr (.inr (.inr (.inr (fun j => some (oad E k' (a * i + j))))))) := by unfold oEnt; rw [hk]; rfl
  rw [he] at hw
  have hn := (oKD_arr hk).1
  have hok := oKOk_at hkd
  unfold oKOk at hok
  rw [hk] at hok
  simp only [Bool.and_eq_true, decide_eq_true_eq] at hok
  obtain ⟨⟨-, hty8⟩, ⟨hk', hty3⟩, hall⟩ := hok
  have h6 := List.all_eq_true.mp (List.all_eq_true.mp hall i (List.mem_range.mpr hi)) j (List.mem_range.mpr hj)
  have h7 : oOk (.inr (k', t)) := by
    subst ht
    show a * i + j < oCnt k'
    simpa using h6
  subst hx
  subst ht
  have hin : vp_in (nI j) n := vp_in_nI hj (by omega)
  have hlt : (nI j).toNatClampNeg < n := by rw [nI_clamp (by omega)]; exact hj
  have htt : ∃ tt : FieldType, (otys E)[ty]? = some (ocA E ty, tt) ∧ tt.isReference = true := by
    match ty, hty8, hty3 with
    | 3, _, _ => exact ⟨_, rfl, rfl⟩
    | 4, _, _ => exact ⟨_, rfl, rfl⟩
    | 5, _, _ => exact ⟨_, rfl, rfl⟩
    | 6, _, _ => exact ⟨_, rfl, rfl⟩
    | 7, _, _ => exact ⟨_, rfl, rfl⟩
  obtain ⟨tt, ht1, ht2⟩ := htt
  rw [List.map_cons, List.map_cons]
  show W p l e R s m args below meth c H locs cs sl Z (F0 m pc la (.int (nI j) :: oRfv E kd i :: _))
  rw [oRfv_ref hkd]
  have kw := kk A p l e R s m args below meth c E H locs la cs sl Z C hE hR hS hP hlv (oOk_cons h7 (oOk_tl (oOk_tl h1))) h2 h3
  rw [List.map_cons] at kw
  rw [show ocv E (.inr (k', a * i + j)) = .ref (oad E k' (a * i + j)) from oRfv_ref hk'] at kw
  exact W.aald (v := .ref (oad E k' (a * i + j))) (ty := tt) C.1 C.2.1 (hP.1 q0 _ hw) ((C.2.2.2.2.2.2.2.1.2 ty _ ht1).1 n _) ht2 (fun q => by cases q) (by show ¬ ((nI j) < 0 ∨ (arrV _ _ _).slots.size ≤ _); rw [arrV_size]; exact hin) (by show (arrV _ _ _).slots[_]? = _; rw [arrV_read _ _ hlt, nI_clamp (by omega)]; rfl) rfl rfl h4 kw
-- what is only read
theorem g_sld (j : Nat) {x : Int32} (hf : oFt k pc = some (.iaload, nx, tg)) (hx : x = nI j) (hj : j < (M K_SCR 1 0).toNatClampNeg) (kk : oG k d nx ls (.inl (M K_SCR 0 j) :: st) M Q) : oG k d pc ls (.inl x :: .inr (K_SCR, 0) :: st) M Q := by
  intro A p l e R s m args below meth c E H locs la cs sl Z C hE hR hS hP hlv h1 h2 h3
  obtain ⟨h4, rfl⟩ := oFt_dec (n := 0) hf rfl C.2.2.2.2.2.2.2.2.2.2.2.2
  have hRO := C.2.2.2.2.2.2.2.2.1
  obtain ⟨s1, s2, s3⟩ := hP.2
  rw [s1, nI_clamp (by omega)] at hj
  subst hx
  have hin : vp_in (nI j) (oL E) := vp_in_nI hj (by omega)
  refine va_sld C.1 C.2.1 hRO.1 hRO.2.1.1 hRO.2.1.2 hS hin h4 ?_
  rw [nI_clamp (by omega), s3 j hj]
  exact kk A p l e R s m args below meth c E H locs la cs sl Z C hE hR hS hP hlv (oOk_int (oOk_tl (oOk_tl h1))) h2 h3
theorem g_slen (hf : oFt k pc = some (.arraylength, nx, tg)) (kk : oG k d nx ls (.inl (M K_SCR 1 0) :: st) M Q) : oG k d pc ls (.inr (K_SCR, 0) :: st) M Q := by
  intro A p l e R s m args below meth c E H locs la cs sl Z C hE hR hS hP hlv h1 h2 h3
  obtain ⟨h4, rfl⟩ := oFt_dec (n := 0) hf rfl C.2.2.2.2.2.2.2.2.2.2.2.2
  have hRO := C.2.2.2.2.2.2.2.2.1
  obtain ⟨s1, s2, s3⟩ := hP.2
  refine va_slen C.1 C.2.1 hRO.1 hRO.2.1.1 hRO.2.1.2 hS h4 ?_
  have kw := kk A p l e R s m args below meth c E H locs la cs sl Z C hE hR hS hP hlv (oOk_int (oOk_tl h1)) h2 h3
  rw [s1] at kw
  exact kw
theorem g_tld (j : Nat) {i : Nat} {x : Int32} (hf : oFt k pc = some (.iaload, nx, tg)) (hi : i < 3) (hx : x = nI j) (hj : j < oTN i) (kk : oG k d nx ls (.inl (oTV i j) :: st) M Q) : oG k d pc ls (.inl x :: .inr (K_TAB, i) :: st) M Q := by
  intro A p l e R s m args below meth c E H locs la cs sl Z C hE hR hS hP hlv h1 h2 h3
  obtain ⟨h4, rfl⟩ := oFt_dec (n := 0) hf rfl C.2.2.2.2.2.2.2.2.2.2.2.2
  have hRO := C.2.2.2.2.2.2.2.2.1
  have hb : oTN i ≤ 8 := by
    match i, hi with
    | 0, _ => decide
    | 1, _ => decide
    | 2, _ => decide
  subst hx
  have hin : vp_in (nI j) (oTN i) := vp_in_nI hj (by omega)
  refine va_ti (v := .int (oTV i j)) C.1 C.2.1 (hRO.2.2.1 i hi) hS hin ?_ h4 ?_
  · rw [nI_clamp (by omega)]
  · exact kk A p l e R s m args below meth c E H locs la cs sl Z C hE hR hS hP hlv (oOk_int (oOk_tl (oOk_tl h1))) h2 h3
theorem g_blen {i : Nat} {v : Int32} (hf : oFt k pc = some (.arraylength, nx, tg)) (hi : i < 3) (hv : v = Int32.ofNat (oSL.getD i 0)) (kk : oG k d nx ls (.inl v :: st) M Q) : oG k d pc ls (.inr (K_SBY, i) :: st) M Q := by
  intro A p l e R s m args below meth c E H locs la cs sl Z C hE hR hS hP hlv h1 h2 h3
  obtain ⟨h4, rfl⟩ := oFt_dec (n := 0) hf rfl C.2.2.2.2.2.2.2.2.2.2.2.2
  have hRO := C.2.2.2.2.2.2.2.2.1
  exact va_tlen (v := v) C.1 C.2.1 (hRO.2.2.2.2.1.1 i hi).2.2.2 hS hv.symm h4 (kk A p l e R s m args below meth c E H locs la cs sl Z C hE hR hS hP hlv (oOk_int (oOk_tl h1)) h2 h3)
theorem g_bld (j : Nat) {i : Nat} {x : Int32} (hf : oFt k pc = some (.baload, nx, tg)) (hi : i < 3) (hx : x = nI j) (hj : j < oSL.getD i 0) (kk : oG k d nx ls (.inl ((oSB.getD i []).getD j 0) :: st) M Q) : oG k d pc ls (.inl x :: .inr (K_SBY, i) :: st) M Q := by
  intro A p l e R s m args below meth c E H locs la cs sl Z C hE hR hS hP hlv h1 h2 h3
  obtain ⟨h4, rfl⟩ := oFt_dec (n := 0) hf rfl C.2.2.2.2.2.2.2.2.2.2.2.2
  have hRO := C.2.2.2.2.2.2.2.2.1
  have hb : oSL.getD i 0 ≤ 8 := by
    match i, hi with
    | 0, _ => decide
    | 1, _ => decide
    | 2, _ => decide
  subst hx
  have hin : vp_in (nI j) (oSL.getD i 0) := vp_in_nI hj (by omega)
  refine va_tb (v := .int ((oSB.getD i []).getD j 0)) C.1 C.2.1 (hRO.2.2.2.2.1.1 i hi).2.2.2 hS hin ?_ h4 ?_
  · rw [nI_clamp (by omega)]
  · exact kk A p l e R s m args below meth c E H locs la cs sl Z C hE hR hS hP hlv (oOk_int (oOk_tl (oOk_tl h1))) h2 h3
theorem oW_val : Cond.fieldLink "java/lang/String" 9 "java/lang/String" "value" "[B" ∈ oGT := oGT_of (List.mem_of_getElem? (i := 1465) (by decide +kernel)) rfl
theorem oW_cod : Cond.fieldLink "java/lang/String" 15 "java/lang/String" "coder" "B" ∈ oGT := oGT_of (List.mem_of_getElem? (i := 1466) (by decide +kernel)) rfl
theorem g_sval {i : Nat} (hf : oFt k pc = some (.getfield 9, nx, tg)) (ho : oMO k = 16) (hi : i < 3) (kk : oG k d nx ls (.inr (K_SBY, i) :: st) M Q) : oG k d pc ls (.inr (K_STR, i) :: st) M Q := by
  intro A p l e R s m args below meth c E H locs la cs sl Z C hE hR hS hP hlv h1 h2 h3
  obtain ⟨h4, rfl⟩ := oFt_dec (n := 2) hf rfl C.2.2.2.2.2.2.2.2.2.2.2.2
  have hRO := C.2.2.2.2.2.2.2.2.1
  have hown := C.2.2.2.2.2.1
  rw [ho] at hown
  exact vk_getf (own := "java/lang/String") C.1 C.2.1 (hRO.2.2.2.2.1.1 i hi).2.2.1 hS hown (C.2.2.2.2.2.2.1 _ oW_val) (fun _ h9 => h9) h4 (kk A p l e R s m args below meth c E H locs la cs sl Z C hE hR hS hP hlv (oOk_cons hi (oOk_tl h1)) h2 h3)
theorem g_scod {i : Nat} (hf : oFt k pc = some (.getfield 15, nx, tg)) (ho : oMO k = 16) (hi : i < 3) (kk : oG k d nx ls (.inl 0 :: st) M Q) : oG k d pc ls (.inr (K_STR, i) :: st) M Q := by
  intro A p l e R s m args below meth c E H locs la cs sl Z C hE hR hS hP hlv h1 h2 h3
  obtain ⟨h4, rfl⟩ := oFt_dec (n := 2) hf rfl C.2.2.2.2.2.2.2.2.2.2.2.2
  have hRO := C.2.2.2.2.2.2.2.2.1
  have hown := C.2.2.2.2.2.1
  rw [ho] at hown
  exact vk_getf (own := "java/lang/String") C.1 C.2.1 (hRO.2.2.2.2.1.1 i hi).2.1 hS hown (C.2.2.2.2.2.2.1 _ oW_cod) (fun _ h9 => h9) h4 (kk A p l e R s m args below meth c E H locs la cs sl Z C hE hR hS hP hlv (oOk_int (oOk_tl h1)) h2 h3)
theorem g_ldcS {idx i : Nat} (hf : oFt k pc = some (.ldc idx, nx, tg)) (ho : oMO k = 4) (hi : i < 3) (hx : oSI i = idx) (kk : oG k d nx ls (.inr (K_STR, i) :: st) M Q) : oG k d pc ls st M Q := by
  intro A p l e R s m args below meth c E H locs la cs sl Z C hE hR hS hP hlv h1 h2 h3
  obtain ⟨h4, rfl⟩ := oFt_dec (n := 1) hf rfl C.2.2.2.2.2.2.2.2.2.2.2.2
  have hRO := C.2.2.2.2.2.2.2.2.1
  have hown := C.2.2.2.2.2.1
  rw [ho] at hown
  subst hx
  exact va_ldcS (own := "OakDeeds$Reader") C.1 C.2.1 hown (hRO.2.2.2.2.2.2.2.2 i hi) h4 (kk A p l e R s m args below meth c E H locs la cs sl Z C hE hR hS hP hlv (oOk_cons hi h1) h2 h3)
theorem oW_abv : Cond.fieldLink "OakDeeds" 393 "OakDeeds" "ABOVE" "[I" ∈ oGT := oGT_of (List.mem_of_getElem? (i := 524) (by decide +kernel)) rfl
theorem oW_cst : Cond.fieldLink "java/lang/String" 38 "java/lang/String" "COMPACT_STRINGS" "Z" ∈ oGT := oGT_of (List.mem_of_getElem? (i := 771) (by decide +kernel)) rfl
theorem oW_sio : Cond.fieldLink "java/lang/String" 1053 "jdk/internal/util/Preconditions" "SIOOBE_FORMATTER" "Ljava/util/function/BiFunction;" ∈ oGT := oGT_of (List.mem_of_getElem? (i := 787) (by decide +kernel)) rfl
theorem oW_stx : Cond.fieldLinkNest "OakDeeds$Walk" 49 "OakDeeds" "STEP_X" "[I" "OakDeeds" ∈ oNW := by decide +kernel
theorem oW_sty : Cond.fieldLinkNest "OakDeeds$Walk" 52 "OakDeeds" "STEP_Y" "[I" "OakDeeds" ∈ oNW := by decide +kernel
theorem g_above (hf : oFt k pc = some (.getstatic 393, nx, tg)) (ho : oMO k = 9) (kk : oG k d nx ls (.inr (K_TAB, 0) :: st) M Q) : oG k d pc ls st M Q := by
  intro A p l e R s m args below meth c E H locs la cs sl Z C hE hR hS hP hlv h1 h2 h3
  obtain ⟨h4, rfl⟩ := oFt_dec (n := 2) hf rfl C.2.2.2.2.2.2.2.2.2.2.2.2
  have hRO := C.2.2.2.2.2.2.2.2.1
  have hown := C.2.2.2.2.2.1
  rw [ho] at hown
  exact va_gets (own := "OakDeeds") C.1 C.2.1 (hRO.2.2.2.1 0 (by decide)) hS hown (C.2.2.2.2.2.2.1 _ oW_abv) (fun _ h9 => h9) h4 (kk A p l e R s m args below meth c E H locs la cs sl Z C hE hR hS hP hlv (oOk_cons (show oOk (.inr _) from (by decide : (_ : Nat) < oCnt _)) h1) h2 h3)
theorem g_compact (hf : oFt k pc = some (.getstatic 38, nx, tg)) (ho : oMO k = 16) (kk : oG k d nx ls (.inl 1 :: st) M Q) : oG k d pc ls st M Q := by
  intro A p l e R s m args below meth c E H locs la cs sl Z C hE hR hS hP hlv h1 h2 h3
  obtain ⟨h4, rfl⟩ := oFt_dec (n := 2) hf rfl C.2.2.2.2.2.2.2.2.2.2.2.2
  have hRO := C.2.2.2.2.2.2.2.2.1
  have hown := C.2.2.2.2.2.1
  rw [ho] at hown
  exact va_gets (own := "java/lang/String") C.1 C.2.1 hRO.2.2.2.2.2.1 hS hown (C.2.2.2.2.2.2.1 _ oW_cst) (fun _ h9 => h9) h4 (kk A p l e R s m args below meth c E H locs la cs sl Z C hE hR hS hP hlv (oOk_int h1) h2 h3)
theorem g_sioobe (hf : oFt k pc = some (.getstatic 1053, nx, tg)) (ho : oMO k = 16) (kk : oG k d nx ls (.inr (K_OPQ, 0) :: st) M Q) : oG k d pc ls st M Q := by
  intro A p l e R s m args below meth c E H locs la cs sl Z C hE hR hS hP hlv h1 h2 h3
  obtain ⟨h4, rfl⟩ := oFt_dec (n := 2) hf rfl C.2.2.2.2.2.2.2.2.2.2.2.2
  have hRO := C.2.2.2.2.2.2.2.2.1
  have hown := C.2.2.2.2.2.1
  rw [ho] at hown
  exact va_gets (own := "java/lang/String") C.1 C.2.1 hRO.2.2.2.2.2.2.1 hS hown (C.2.2.2.2.2.2.1 _ oW_sio) (fun _ h9 => h9) h4 (kk A p l e R s m args below meth c E H locs la cs sl Z C hE hR hS hP hlv (oOk_cons (show oOk (.inr _) from (by decide : (_ : Nat) < oCnt _)) h1) h2 h3)
theorem g_stepx (hf : oFt k pc = some (.getstatic 49, nx, tg)) (ho : oMO k = 8) (kk : oG k d nx ls (.inr (K_TAB, 1) :: st) M Q) : oG k d pc ls st M Q := by
  intro A p l e R s m args below meth c E H locs la cs sl Z C hE hR hS hP hlv h1 h2 h3
  obtain ⟨h4, rfl⟩ := oFt_dec (n := 2) hf rfl C.2.2.2.2.2.2.2.2.2.2.2.2
  have hRO := C.2.2.2.2.2.2.2.2.1
  have hown := C.2.2.2.2.2.1
  rw [ho] at hown
  exact va_getsN (own := "OakDeeds$Walk") C.1 C.2.1 (hRO.2.2.2.1 1 (by decide)) hS hown (va_Nw.use rfl (C.2.2.2.2.2.2.2.2.2.1 _ oW_stx)) (fun _ h9 => h9) h4 (kk A p l e R s m args below meth c E H locs la cs sl Z C hE hR hS hP hlv (oOk_cons (show oOk (.inr _) from (by decide : (_ : Nat) < oCnt _)) h1) h2 h3)
theorem g_stepy (hf : oFt k pc = some (.getstatic 52, nx, tg)) (ho : oMO k = 8) (kk : oG k d nx ls (.inr (K_TAB, 2) :: st) M Q) : oG k d pc ls st M Q := by
  intro A p l e R s m args below meth c E H locs la cs sl Z C hE hR hS hP hlv h1 h2 h3
  obtain ⟨h4, rfl⟩ := oFt_dec (n := 2) hf rfl C.2.2.2.2.2.2.2.2.2.2.2.2
  have hRO := C.2.2.2.2.2.2.2.2.1
  have hown := C.2.2.2.2.2.1
  rw [ho] at hown
  exact va_getsN (own := "OakDeeds$Walk") C.1 C.2.1 (hRO.2.2.2.1 2 (by decide)) hS hown (va_Nw.use rfl (C.2.2.2.2.2.2.2.2.2.1 _ oW_sty)) (fun _ h9 => h9) h4 (kk A p l e R s m args below meth c E H locs la cs sl Z C hE hR hS hP hlv (oOk_cons (show oOk (.inr _) from (by decide : (_ : Nat) < oCnt _)) h1) h2 h3)
-- ends
theorem g_iret {v : Int32} {ty : FieldType} (hf : oFt k pc = some (.ireturn, nx, tg)) (ht : oMR k = some ty) (hn : narrow ty (.int v) = .int v) (hq : Q (some v) M) : oG k d pc ls [.inl v] M Q := by
  intro A p l e R s m args below meth c E H locs la cs sl Z C hE hR hS hP hlv h1 h2 h3
  obtain ⟨h4, -⟩ := oFt_dec (n := 0) hf rfl C.2.2.2.2.2.2.2.2.2.2.2.2
  exact hE (some v) M H locs pc la hq hP hS ⟨h4, ty, ht, hn⟩
theorem g_ret (hf : oFt k pc = some (.return_, nx, tg)) (ht : oMR k = none) (hq : Q none M) : oG k d pc ls [] M Q := by
  intro A p l e R s m args below meth c E H locs la cs sl Z C hE hR hS hP hlv h1 h2 h3
  obtain ⟨h4, -⟩ := oFt_dec (n := 0) hf rfl C.2.2.2.2.2.2.2.2.2.2.2.2
  exact hE none M H locs pc la hq hP hS ⟨h4, ht⟩
end RULES
