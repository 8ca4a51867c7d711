/-! ===== rules: locals, fields, arrays, constants, tables ===== -/
def oLd : List (Option oV) → Nat → Option oV
  | [], _ => none
  | a :: _, 0 => a
  | _ :: r, n + 1 => oLd r n
theorem oLd_some : ∀ (l : List (Option oV)) (i : Nat) (v : oV), oLd l i = some v → l[i]? = some (some v)
  | [], i, v, h => by simp [oLd] at h
  | a :: r, 0, v, h => by
    have : a = some v := h
    rw [this]
    rfl
  | a :: r, i + 1, v, h => by
    rw [List.getElem?_cons_succ]
    exact oLd_some r i v h
def oS0 (l : List (Option oV)) (v : oV) : List (Option oV) := match l with
  | _ :: r => some v :: r
  | [] => []
def oS1 (l : List (Option oV)) (v : oV) : List (Option oV) := match l with
  | a :: _ :: r => a :: some v :: r
  | l => l
def oS2 (l : List (Option oV)) (v : oV) : List (Option oV) := match l with
  | a :: b :: _ :: r => a :: b :: some v :: r
  | l => l
def oS3 (l : List (Option oV)) (v : oV) : List (Option oV) := match l with
  | a :: b :: c :: _ :: r => a :: b :: c :: some v :: r
  | l => l
def oS4 (l : List (Option oV)) (v : oV) : List (Option oV) := match l with
  | a :: b :: c :: d :: _ :: r => a :: b :: c :: d :: some v :: r
  | l => l
def oS5 (l : List (Option oV)) (v : oV) : List (Option oV) := match l with
  | a :: b :: c :: d :: e :: _ :: r => a :: b :: c :: d :: e :: some v :: r
  | l => l
def oS6 (l : List (Option oV)) (v : oV) : List (Option oV) := match l with
  | a :: b :: c :: d :: e :: f :: _ :: r => a :: b :: c :: d :: e :: f :: some v :: r
  | l => l
def oS7 (l : List (Option oV)) (v : oV) : List (Option oV) := match l with
  | a :: b :: c :: d :: e :: f :: g :: _ :: r => a :: b :: c :: d :: e :: f :: g :: some v :: r
  | l => l
def oS8 (l : List (Option oV)) (v : oV) : List (Option oV) := match l with
  | a :: b :: c :: d :: e :: f :: g :: h :: _ :: r => a :: b :: c :: d :: e :: f :: g :: h :: some v :: r
  | l => l
def oS9 (l : List (Option oV)) (v : oV) : List (Option oV) := match l with
  | a :: b :: c :: d :: e :: f :: g :: h :: i :: _ :: r => a :: b :: c :: d :: e :: f :: g :: h :: i :: some v :: r
  | l => l
def oS10 (l : List (Option oV)) (v : oV) : List (Option oV) := match l with
  | a :: b :: c :: d :: e :: f :: g :: h :: i :: j :: _ :: r => a :: b :: c :: d :: e :: f :: g :: h :: i :: j :: some v :: r
  | l => l
def oS11 (l : List (Option oV)) (v : oV) : List (Option oV) := match l with
  | a :: b :: c :: d :: e :: f :: g :: h :: i :: j :: k :: _ :: r => a :: b :: c :: d :: e :: f :: g :: h :: i :: j :: k :: some v :: r
  | l => l
def oSL' (l : List (Option oV)) (i : Nat) (v : oV) : List (Option oV) := match i with
  | 0 => oS0 l v
  | 1 => oS1 l v
  | 2 => oS2 l v
  | 3 => oS3 l v
  | 4 => oS4 l v
  | 5 => oS5 l v
  | 6 => oS6 l v
  | 7 => oS7 l v
  | 8 => oS8 l v
  | 9 => oS9 l v
  | 10 => oS10 l v
  | 11 => oS11 l v
  | i => l.set i (some v)
theorem oSet_eq (l : List (Option oV)) (i : Nat) (v : oV) : oSL' l i v = l.set i (some v) := by
  unfold oSL'
  split
  · rcases l with _ | ⟨a, l⟩ <;> rfl
  · rcases l with _ | ⟨a, _ | ⟨b, l⟩⟩ <;> rfl
  · rcases l with _ | ⟨a, _ | ⟨b, _ | ⟨c, l⟩⟩⟩ <;> rfl
  · rcases l with _ | ⟨a, _ | ⟨b, _ | ⟨c, _ | ⟨d, l⟩⟩⟩⟩ <;> rfl
  · rcases l with _ | ⟨a, _ | ⟨b, _ | ⟨c, _ | ⟨d, _ | ⟨e, l⟩⟩⟩⟩⟩ <;> rfl
  · rcases l with _ | ⟨a, _ | ⟨b, _ | ⟨c, _ | ⟨d, _ | ⟨e, _ | ⟨f, l⟩⟩⟩⟩⟩⟩ <;> rfl
  · rcases l with _ | ⟨a, _ | ⟨b, _ | ⟨c, _ | ⟨d, _ | ⟨e, _ | ⟨f, _ | ⟨g, l⟩⟩⟩⟩⟩⟩⟩ <;> rfl
  · rcases l with _ | ⟨a, _ | ⟨b, _ | ⟨c, _ | ⟨d, _ | ⟨e, _ | ⟨f, _ | ⟨g, _ | ⟨h, l⟩⟩⟩⟩⟩⟩⟩⟩ <;> rfl
  · rcases l with _ | ⟨a, _ | ⟨b, _ | ⟨c, _ | ⟨d, _ | ⟨e, _ | ⟨f, _ | ⟨g, _ | ⟨h, _ | ⟨i, l⟩⟩⟩⟩⟩⟩⟩⟩⟩ <;> rfl
  · rcases l with _ | ⟨a, _ | ⟨b, _ | ⟨c, _ | ⟨d, _ | ⟨e, _ | ⟨f, _ | ⟨g, _ | ⟨h, _ | ⟨i, _ | ⟨j, l⟩⟩⟩⟩⟩⟩⟩⟩⟩⟩ <;> rfl
  · rcases l with _ | ⟨a, _ | ⟨b, _ | ⟨c, _ | ⟨d, _ | ⟨e, _ | ⟨f, _ | ⟨g, _ | ⟨h, _ | ⟨i, _ | ⟨j, _ | ⟨k, l⟩⟩⟩⟩⟩⟩⟩⟩⟩⟩⟩ <;> rfl
  · rcases l with _ | ⟨a, _ | ⟨b, _ | ⟨c, _ | ⟨d, _ | ⟨e, _ | ⟨f, _ | ⟨g, _ | ⟨h, _ | ⟨i, _ | ⟨j, _ | ⟨k, _ | ⟨m, l⟩⟩⟩⟩⟩⟩⟩⟩⟩⟩⟩⟩ <;> rfl
  · rfl
-- kinds
theorem oKDs_len : oKDs.length = 60 := by decide +kernel
theorem oKDs_le {k : Nat} (h : ¬ k < oNK) : oKDs.length ≤ k := by
  rw [oKDs_len]
  unfold oNK at h
  omega
theorem oKD_lt {k ty n : Nat} {r : Option (Nat × Nat)} (h : oKD k = .inr (ty, n, r)) : k < oNK := by
  by_cases hk : k < oNK
  · exact hk
  · unfold oKD at h
    rw [List.getD_eq_getElem?_getD, List.getElem?_eq_none (oKDs_le hk)] at h
    cases h
theorem oKD_lt' {k ci : Nat} {r : List (Option (Nat × Nat × Nat))} (hc : ci < 11) (h : oKD k = .inl (ci, r)) : k < oNK := by
  by_cases hk : k < oNK
  · exact hk
  · unfold oKD at h
    rw [List.getD_eq_getElem?_getD, List.getElem?_eq_none (oKDs_le hk)] at h
    cases h
    omega
def oKOk (k : Nat) : Bool := match oKD k with
  | .inl (ci, fds) => decide (ci < 11) && decide (fds.length = (oCl ci).2.2) && fds.all (fun fd => match fd with
      | none => true
      | some (k', a, b) => decide (k' < oNK) && (List.range (oCnt k)).all (fun i => decide (a * i + b < oCnt k')))
  | .inr (ty, n, r) => decide (n < 2000) && decide (ty < 8) && (match r with
      | none => decide (ty < 3)
      | some (k', a) => decide (k' < oNK) && decide (3 ≤ ty) && (List.range (oCnt k)).all (fun i => (List.range n).all (fun j => decide (a * i + j < oCnt k'))))
theorem oKOk_all : (List.range oNK).all oKOk = true := by decide +kernel
theorem oKOk_at {k : Nat} (h : k < oNK) : oKOk k = true := List.all_eq_true.mp oKOk_all k (List.mem_range.mpr h)
theorem oKD_arr {k ty n : Nat} {r : Option (Nat × Nat)} (h : oKD k = .inr (ty, n, r)) : n < 2000 ∧ ty < 8 := by
  have h1 := oKOk_at (oKD_lt h)
  unfold oKOk at h1
  rw [h] at h1
  simp only [Bool.and_eq_true, decide_eq_true_eq] at h1
  exact ⟨h1.1.1, h1.1.2⟩
def oFdV (E : oE) (g : Nat → Int32) (i j : Nat) (fd : Option (Nat × Nat × Nat)) : Value := match fd with
  | none => .int (g j)
  | some (k', a, b) => .ref (oad E k' (a * i + b))
def oFdA (M : oM) (kd i j : Nat) (fd : Option (Nat × Nat × Nat)) : oV := match fd with
  | none => .inl (M kd i j)
  | some (k', a, b) => .inr (k', a * i + b)
theorem oFV_get {E : oE} {g : Nat → Int32} {i : Nat} : ∀ (fds : List (Option (Nat × Nat × Nat))) (n f : Nat) (fd : Option (Nat × Nat × Nat)), fds[f]? = some fd → (oFV E g i n fds)[f]? = some (oFdV E g i (n + f) fd)
  | [], n, f, fd, h => by simp at h
  | x :: r, n, 0, fd, h => by
    have : x = fd := by simpa using h
    subst this
    rcases x with _ | ⟨k', a, b⟩ <;> rfl
  | x :: r, n, f + 1, fd, h => by
    have h1 : r[f]? = some fd := by simpa using h
    have := oFV_get (E := E) (g := g) (i := i) r (n + 1) f fd h1
    rcases x with _ | ⟨k', a, b⟩ <;> (show (oFV E g i (n + 1) r)[f]? = _; rw [this, show n + 1 + f = n + (f + 1) by omega])
theorem oFV_len {E : oE} {g : Nat → Int32} {i : Nat} : ∀ (fds : List (Option (Nat × Nat × Nat))) (n : Nat), (oFV E g i n fds).length = fds.length
  | [], n => rfl
  | x :: r, n => by rcases x with _ | ⟨k', a, b⟩ <;> (show (oFV E g i (n + 1) r).length + 1 = _; rw [oFV_len r (n + 1)]; rfl)
theorem oFV_congr {E : oE} {g g' : Nat → Int32} {i : Nat} : ∀ (fds : List (Option (Nat × Nat × Nat))) (n : Nat), (∀ j, n ≤ j → g j = g' j) → oFV E g i n fds = oFV E g' i n fds
  | [], n, h => rfl
  | x :: r, n, h => by
    have h1 := oFV_congr (E := E) (i := i) r (n + 1) (fun j hj => h j (by omega))
    rcases x with _ | ⟨k', a, b⟩
    · show Value.int (g n) :: _ = Value.int (g' n) :: _
      rw [h n (Nat.le_refl n), h1]
    · show Value.ref _ :: _ = Value.ref _ :: _
      rw [h1]
theorem oFV_set {E : oE} {g : Nat → Int32} {i : Nat} {v : Int32} : ∀ (fds : List (Option (Nat × Nat × Nat))) (n f : Nat), fds[f]? = some none → (oFV E g i n fds).set f (.int v) = oFV E (fun j => if j = n + f then v else g j) i n fds
  | [], n, f, h => by simp at h
  | x :: r, n, 0, h => by
    have : x = none := by simpa using h
    subst this
    show Value.int v :: oFV E g i (n + 1) r = Value.int (if n = n + 0 then v else g n) :: oFV E _ i (n + 1) r
    rw [if_pos (by omega), oFV_congr (g' := fun j => if j = n + 0 then v else g j) r (n + 1) (fun j hj => by show g j = if j = n + 0 then v else g j; rw [if_neg (by omega)])]
  | x :: r, n, f + 1, h => by
    have h1 : r[f]? = some none := by simpa using h
    have := oFV_set (E := E) (g := g) (i := i) (v := v) r (n + 1) f h1
    have e : n + (f + 1) = n + 1 + f := by omega
    rcases x with _ | ⟨k', a, b⟩
    · show Value.int (g n) :: (oFV E g i (n + 1) r).set f (.int v) = Value.int (if n = n + (f + 1) then v else g n) :: oFV E _ i (n + 1) r
      rw [this, if_neg (by omega), e]
    · show Value.ref _ :: (oFV E g i (n + 1) r).set f (.int v) = Value.ref _ :: oFV E _ i (n + 1) r
      rw [this, e]
theorem oRfv_ref {E : oE} {k i : Nat} (h : k < oNK) : oRfv E k i = .ref (oad E k i) := by
  unfold oRfv
  rw [if_neg (by unfold K_OPQ; unfold oNK at h; omega)]
section RULES
variable {k d pc nx tg : Nat} {ls : List (Option oV)} {st : List oV} {M : oM} {Q : Option Int32 → oM → Prop}
theorem oOk_ls {i : Nat} {v : oV} (h2 : ∀ v, some v ∈ ls → oOk v) (hl : oLd ls i = some v) : oOk v := h2 v (List.mem_of_getElem? (oLd_some ls i v hl))
theorem g_iload {i : Nat} {x : Int32} (hf : oFt k pc = some (.iload i, nx, tg)) (hl : oLd ls i = some (.inl x)) (kk : oG k d nx ls (.inl x :: st) M Q) : oG k d pc ls st M Q := by
  intro A p l e R s m args below meth c E H locs la cs sl Z C hE hR hS hP hv h1 h2 h3
  obtain ⟨h4, rfl⟩ := oFt_dec (n := 1) hf rfl C.2.2.2.2.2.2.2.2.2.2.2.2
  exact lv_iload C.1 C.2.1 h4 (oLv_get hv (oLd_some _ _ _ hl)) (kk A p l e R s m args below meth c E H locs la cs sl Z C hE hR hS hP hv (oOk_int h1) h2 h3)
theorem g_iload_n {i : Fin 4} {x : Int32} (hf : oFt k pc = some (.iload_n i, nx, tg)) (hl : oLd ls i.val = some (.inl x)) (kk : oG k d nx ls (.inl x :: st) M Q) : oG k d pc ls st M Q := by
  intro A p l e R s m args below meth c E H locs la cs sl Z C hE hR hS hP hv h1 h2 h3
  obtain ⟨h4, rfl⟩ := oFt_dec (n := 0) hf rfl C.2.2.2.2.2.2.2.2.2.2.2.2
  exact lv_iload_n C.1 C.2.1 h4 rfl (oLv_get hv (oLd_some _ _ _ hl)) (kk A p l e R s m args below meth c E H locs la cs sl Z C hE hR hS hP hv (oOk_int h1) h2 h3)
theorem oRfv_ne {E : oE} {q : Nat × Nat} (h : Nat.beq q.1 K_OPQ = false) : ocv E (.inr q) = .ref (oad E q.1 q.2) := by
  show oRfv E q.1 q.2 = _
  unfold oRfv
  rw [if_neg (fun e => by rw [e] at h; cases h)]
theorem g_aload {i : Nat} {q : Nat × Nat} (hf : oFt k pc = some (.aload i, nx, tg)) (hl : oLd ls i = some (.inr q)) (hq : Nat.beq q.1 K_OPQ = false) (kk : oG k d nx ls (.inr q :: st) M Q) : oG k d pc ls st M Q := by
  intro A p l e R s m args below meth c E H locs la cs sl Z C hE hR hS hP hv h1 h2 h3
  obtain ⟨h4, rfl⟩ := oFt_dec (n := 1) hf rfl C.2.2.2.2.2.2.2.2.2.2.2.2
  have hg := oLv_get hv (oLd_some _ _ _ hl)
  have kw := kk A p l e R s m args below meth c E H locs la cs sl Z C hE hR hS hP hv (oOk_cons (oOk_ls h2 hl) h1) h2 h3
  rw [List.map_cons] at kw
  rw [oRfv_ne hq] at hg kw
  exact lv_aload C.1 C.2.1 h4 hg kw
theorem g_aload_n {i : Fin 4} {q : Nat × Nat} (hf : oFt k pc = some (.aload_n i, nx, tg)) (hl : oLd ls i.val = some (.inr q)) (hq : Nat.beq q.1 K_OPQ = false) (kk : oG k d nx ls (.inr q :: st) M Q) : oG k d pc ls st M Q := by
  intro A p l e R s m args below meth c E H locs la cs sl Z C hE hR hS hP hv h1 h2 h3
  obtain ⟨h4, rfl⟩ := oFt_dec (n := 0) hf rfl C.2.2.2.2.2.2.2.2.2.2.2.2
  have hg := oLv_get hv (oLd_some _ _ _ hl)
  have kw := kk A p l e R s m args below meth c E H locs la cs sl Z C hE hR hS hP hv (oOk_cons (oOk_ls h2 hl) h1) h2 h3
  rw [List.map_cons] at kw
  rw [oRfv_ne hq] at hg kw
  exact lv_aload_n C.1 C.2.1 h4 rfl hg kw
theorem oOk_set {i : Nat} {v : oV} (hv : oOk v) (h2 : ∀ v, some v ∈ ls → oOk v) : ∀ w, some w ∈ oSL' ls i v → oOk w := by
  intro w hw
  rw [oSet_eq] at hw
  rcases List.mem_or_eq_of_mem_set hw with h | h
  · exact h2 w h
  · cases h
    exact hv
theorem oSL_len {i : Nat} {v : oV} {n : Nat} (h : ls.length = n) : (oSL' ls i v).length = n := by rw [oSet_eq, List.length_set]; exact h
theorem g_istore {i : Nat} {x : Int32} (hf : oFt k pc = some (.istore i, nx, tg)) (hi : Nat.blt i (oML k) = true) (kk : oG k d nx (oSL' ls i (.inl x)) st M Q) : oG k d pc ls (.inl x :: st) M Q := by
  intro A p l e R s m args below meth c E H locs la cs sl Z C hE hR hS hP hv h1 h2 h3
  obtain ⟨h4, rfl⟩ := oFt_dec (n := 1) hf rfl C.2.2.2.2.2.2.2.2.2.2.2.2
  have hov := C.2.2.2.2.2.2.2.2.1.2.2.2.2.2.2.2.1
  refine lv_istore C.1 C.2.1 h4 hv (Nat.le_of_ble_eq_true hi) rfl (fun la' hv' => ?_)
  refine kk A p l e R s m args below meth c E H locs la' cs sl Z C hE hR hS hP ?_ (oOk_tl h1) (oOk_set trivial h2) (oSL_len h3)
  rw [oSet_eq]
  exact oLv_set rfl hv' hov
theorem g_istore_n {i : Fin 4} {x : Int32} (hf : oFt k pc = some (.istore_n i, nx, tg)) (hi : Nat.blt i.val (oML k) = true) (kk : oG k d nx (oSL' ls i.val (.inl x)) st M Q) : oG k d pc ls (.inl x :: st) M Q := by
  intro A p l e R s m args below meth c E H locs la cs sl Z C hE hR hS hP hv h1 h2 h3
  obtain ⟨h4, rfl⟩ := oFt_dec (n := 0) hf rfl C.2.2.2.2.2.2.2.2.2.2.2.2
  have hov := C.2.2.2.2.2.2.2.2.1.2.2.2.2.2.2.2.1
  refine lv_istore_n C.1 C.2.1 h4 rfl hv (Nat.le_of_ble_eq_true hi) rfl (fun la' hv' => ?_)
  refine kk A p l e R s m args below meth c E H locs la' cs sl Z C hE hR hS hP ?_ (oOk_tl h1) (oOk_set trivial h2) (oSL_len h3)
  rw [oSet_eq]
  exact oLv_set rfl hv' hov
theorem g_astore {i : Nat} {q : Nat × Nat} (hf : oFt k pc = some (.astore i, nx, tg)) (hi : Nat.blt i (oML k) = true) (hq : Nat.beq q.1 K_OPQ = false) (kk : oG k d nx (oSL' ls i (.inr q)) st M Q) : oG k d pc ls (.inr q :: st) M Q := by
  intro A p l e R s m args below meth c E H locs la cs sl Z C hE hR hS hP hv h1 h2 h3
  obtain ⟨h4, rfl⟩ := oFt_dec (n := 1) hf rfl C.2.2.2.2.2.2.2.2.2.2.2.2
  have hov := C.2.2.2.2.2.2.2.2.1.2.2.2.2.2.2.2.1
  rw [List.map_cons, oRfv_ne hq]
  refine lv_astore C.1 C.2.1 h4 hv (Nat.le_of_ble_eq_true hi) rfl (fun la' hv' => ?_)
  refine kk A p l e R s m args below meth c E H locs la' cs sl Z C hE hR hS hP ?_ (oOk_tl h1) (oOk_set (h1 _ List.mem_cons_self) h2) (oSL_len h3)
  rw [oSet_eq]
  exact oLv_set (oRfv_ne hq).symm hv' hov
theorem g_astore_n {i : Fin 4} {q : Nat × Nat} (hf : oFt k pc = some (.astore_n i, nx, tg)) (hi : Nat.blt i.val (oML k) = true) (hq : Nat.beq q.1 K_OPQ = false) (kk : oG k d nx (oSL' ls i.val (.inr q)) st M Q) : oG k d pc ls (.inr q :: st) M Q := by
  intro A p l e R s m args below meth c E H locs la cs sl Z C hE hR hS hP hv h1 h2 h3
  obtain ⟨h4, rfl⟩ := oFt_dec (n := 0) hf rfl C.2.2.2.2.2.2.2.2.2.2.2.2
  have hov := C.2.2.2.2.2.2.2.2.1.2.2.2.2.2.2.2.1
  rw [List.map_cons, oRfv_ne hq]
  refine lv_astore_n C.1 C.2.1 h4 rfl hv (Nat.le_of_ble_eq_true hi) rfl (fun la' hv' => ?_)
  refine kk A p l e R s m args below meth c E H locs la' cs sl Z C hE hR hS hP ?_ (oOk_tl h1) (oOk_set (h1 _ List.mem_cons_self) h2) (oSL_len h3)
  rw [oSet_eq]
  exact oLv_set (oRfv_ne hq).symm hv' hov
theorem g_iinc {i : Nat} {n : Int} {x v : Int32} (hf : oFt k pc = some (.iinc i n, nx, tg)) (hi : Nat.blt i (oML k) = true) (hl : oLd ls i = some (.inl x)) (hn : x + Int32.ofInt n = v) (kk : oG k d nx (oSL' ls i (.inl v)) st M Q) : oG k d pc ls st M Q := by
  intro A p l e R s m args below meth c E H locs la cs sl Z C hE hR hS hP hv h1 h2 h3
  obtain ⟨h4, rfl⟩ := oFt_dec (n := 2) hf rfl C.2.2.2.2.2.2.2.2.2.2.2.2
  have hov := C.2.2.2.2.2.2.2.2.1.2.2.2.2.2.2.2.1
  have hm : (i, Value.int x) ∈ oEn E 0 ls := (oEn_mem ls 0 _).mpr ⟨i, .inl x, oLd_some _ _ _ hl, by rw [Nat.zero_add]; rfl⟩
  obtain ⟨kk0, hkk⟩ := List.getElem?_of_mem hm
  refine lv_iinc C.1 C.2.1 h4 hv hkk hn (Nat.le_of_ble_eq_true hi) rfl (fun la' hv' => ?_)
  refine kk A p l e R s m args below meth c E H locs la' cs sl Z C hE hR hS hP ?_ h1 (oOk_set trivial h2) (oSL_len h3)
  rw [oSet_eq]
  exact oLv_set rfl hv' hov
theorem g_ldc {idx : Nat} {v : Int32} (hf : oFt k pc = some (.ldc idx, nx, tg)) (hc : oLkC (oCL (oMO k)) idx = some v) (kk : oG k d nx ls (.inl v :: st) M Q) : oG k d pc ls st M Q := by
  intro A p l e R s m args below meth c E H locs la cs sl Z C hE hR hS hP hv h1 h2 h3
  obtain ⟨h4, rfl⟩ := oFt_dec (n := 1) hf rfl C.2.2.2.2.2.2.2.2.2.2.2.2
  exact lv_ldc C.1 C.2.1 C.2.2.2.2.2.1 (C.2.2.2.2.2.2.1 _ (oCL_ok hc)) h4 (kk A p l e R s m args below meth c E H locs la cs sl Z C hE hR hS hP hv (oOk_int h1) h2 h3)
theorem g_ldcw {idx : Nat} {v : Int32} (hf : oFt k pc = some (.ldc_w idx, nx, tg)) (hc : oLkC (oCL (oMO k)) idx = some v) (kk : oG k d nx ls (.inl v :: st) M Q) : oG k d pc ls st M Q := by
  intro A p l e R s m args below meth c E H locs la cs sl Z C hE hR hS hP hv h1 h2 h3
  obtain ⟨h4, rfl⟩ := oFt_dec (n := 2) hf rfl C.2.2.2.2.2.2.2.2.2.2.2.2
  exact lv_ldcw C.1 C.2.1 C.2.2.2.2.2.1 (C.2.2.2.2.2.2.1 _ (oCL_ok hc)) h4 (kk A p l e R s m args below meth c E H locs la cs sl Z C hE hR hS hP hv (oOk_int h1) h2 h3)
theorem g_get {idx ci f kd i : Nat} {fds : List (Option (Nat × Nat × Nat))} {fd : Option (Nat × Nat × Nat)} {v : oV} (hf : oFt k pc = some (.getfield idx, nx, tg)) (hl : oLkF (oFL (oMO k)) idx = some (ci, f)) (hk : oKD kd = .inl (ci, fds)) (hfd : fds[f]? = some fd) (hv : v = oFdA M kd i f fd)
    (kk : oG k d nx ls (v :: st) M Q) : oG k d pc ls (.inr (kd, i) :: st) M Q := by
  intro A p l e R s m args below meth c E H locs la cs sl Z C hE hR hS hP hlv h1 h2 h3
  obtain ⟨h4, rfl⟩ := oFt_dec (n := 2) hf rfl C.2.2.2.2.2.2.2.2.2.2.2.2
  obtain ⟨hci, hfN, hlink⟩ := oFL_ok hl
  have hkd : kd < oNK := oKD_lt' hci hk
  have hi : i < oCnt kd := h1 _ List.mem_cons_self
  obtain ⟨q0, hq0⟩ := oPK_at hkd hi
  have hw := oWS_at (E := E) (M := M) hq0
  have he : oEnt E M kd i = .inr (ci, oFV E (M kd i) i 0 fds) := by unfold oEnt; rw [hk]; rfl
  rw [he] at hw
  have hg := oFV_get (E := E) (g := M kd i) (i := i) fds 0 f fd hfd
  rw [Nat.zero_add] at hg
  have hvv : oFdV E (M kd i) i f fd = ocv E v ∧ oOk v := by
    subst hv
    rcases fd with _ | ⟨k', a, b⟩
    · exact ⟨rfl, trivial⟩
    · have hok := oKOk_at hkd
      unfold oKOk at hok
      rw [hk] at hok
      simp only [Bool.and_eq_true, decide_eq_true_eq] at hok
      have h5 := List.all_eq_true.mp hok.2 _ (List.mem_of_getElem? hfd)
      simp only [Bool.and_eq_true, decide_eq_true_eq] at h5
      refine ⟨(oRfv_ref h5.1).symm, ?_⟩
      have h6 := List.all_eq_true.mp h5.2 i (List.mem_range.mpr hi)
      show a * i + b < oCnt k'
      simpa using h6
  rw [hvv.1] at hg
  rw [List.map_cons]
  show W p l e R s m args below meth c H locs cs sl Z (F0 m pc la (oRfv E kd i :: _))
  rw [oRfv_ref hkd]
  exact va_get (D := E.1) C.1 C.2.1 C.2.2.2.2.2.2.1 (oCl_ws hci) C.2.2.2.2.2.1 C.2.2.2.2.2.2.2.1 hP.1 q0 hw (oCl_at hci) f hfN (C.2.2.2.2.2.2.1 _ hlink) (fun _ h9 => h9) hg h4 (kk A p l e R s m args below meth c E H locs la cs sl Z C hE hR hS hP hlv (oOk_cons hvv.2 (oOk_tl h1)) h2 h3)
theorem g_put {idx ci f kd i : Nat} {fds : List (Option (Nat × Nat × Nat))} {v : Int32} (hf : oFt k pc = some (.putfield idx, nx, tg)) (hl : oLkF (oFL (oMO k)) idx = some (ci, f)) (hk : oKD kd = .inl (ci, fds)) (hfd : fds[f]? = some none) (hfin : ((oCl ci).2.1 f).2.2.2 = false) (hn : narrow (oTy ci f) (.int v) = .int v) (hft : fits (oTy ci f) (.int v) = true)
    (kk : oG k d nx ls st (oUp M kd i f v) Q) : oG k d pc ls (.inl v :: .inr (kd, i) :: st) M Q := by
  intro A p l e R s m args below meth c E H locs la cs sl Z C hE hR hS hP hlv h1 h2 h3
  obtain ⟨h4, rfl⟩ := oFt_dec (n := 2) hf rfl C.2.2.2.2.2.2.2.2.2.2.2.2
  obtain ⟨hci, hfN, hlink⟩ := oFL_ok hl
  have hkd : kd < oNK := oKD_lt' hci hk
  have hi : i < oCnt kd := h1 _ (List.mem_cons_of_mem _ List.mem_cons_self)
  obtain ⟨q0, hq0⟩ := oPK_at hkd hi
  have hw := oWS_at (E := E) (M := M) hq0
  have he : ∀ M', oEnt E M' kd i = .inr (ci, oFV E (M' kd i) i 0 fds) := fun M' => by unfold oEnt; rw [hk]; rfl
  rw [he] at hw
  have hlen : f < (oFV E (M kd i) i 0 fds).length := by rw [oFV_len]; exact (List.getElem?_eq_some_iff.mp hfd).1
  rw [List.map_cons, List.map_cons]
  show W p l e R s m args below meth c H locs cs sl Z (F0 m pc la (.int v :: oRfv E kd i :: _))
  rw [oRfv_ref hkd]
  have hD : va_D A (oWS E M) := (oWS_D C.2.2.2.2.2.2.2.2.2.2.1).weaken (fun _ q _ h => C.2.2.2.2.2.2.2.2.2.2.2.1 q.1 h)
  refine va_put (D := E.1) (ty := oTy ci f) C.1 C.2.1 C.2.2.2.2.2.2.1 (oCl_ws hci) (oTy ci) (oCl_ty ci hci) (oCl_nm ci hci) C.2.2.2.2.2.1 C.2.2.2.2.2.2.2.1 hP.1 hD hS q0 hw (oCl_at hci) f hfN (C.2.2.2.2.2.2.1 _ hlink) (fun _ h9 => h9) hfin (oCl_ty ci hci f hfN) hn hft hlen h4 (fun H1 locs1 hP1 hD1 hS1 => ?_)
  have hset : (oWS E M).set q0 (oad E kd i, .inr (ci, (oFV E (M kd i) i 0 fds).set f (.int v))) = oWS E (oUp M kd i f v) := by
    rw [oFV_set fds 0 f hfd]
    have e2 := he (oUp M kd i f v)
    rw [oUp_at] at e2
    rw [Nat.zero_add, ← e2]
    exact oWS_set hq0 (fun k' i' hne => oUp_ne hne)
  rw [hset] at hP1
  exact kk A p l e R s m args below meth c E H1 locs1 la cs sl Z C hE hR hS1 ⟨hP1, oScr_up hkd hP.2⟩ hlv (oOk_tl (oOk_tl h1)) h2 h3
end RULES
