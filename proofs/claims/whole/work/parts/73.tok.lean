/-! ===== words and signs of the tape ===== -/
def srt (c : Int32) : Nat := if f_Oak_isLetter c = 0 then (if c < 48 then 3 else if 57 < c then 3 else 2) else 1
theorem srt_eq (c : Int32) : f_Reader_sortOf c = nI (srt c) := by
  unfold f_Reader_sortOf srt
  by_cases h : f_Oak_isLetter c = 0
  · rw [if_pos h, if_pos h]
    by_cases h2 : c < 48
    · rw [if_pos h2, if_pos h2]; rfl
    · rw [if_neg h2, if_neg h2]
      by_cases h3 : 57 < c
      · rw [if_pos h3, if_pos h3]; rfl
      · rw [if_neg h3, if_neg h3]; rfl
  · rw [if_neg h, if_neg h]; rfl
theorem srt_3 (c : Int32) : srt c = 1 ∨ srt c = 2 ∨ srt c = 3 := by
  unfold srt
  by_cases h : f_Oak_isLetter c = 0
  · rw [if_pos h]
    by_cases h2 : c < 48
    · rw [if_pos h2]; exact Or.inr (Or.inr rfl)
    · rw [if_neg h2]
      by_cases h3 : 57 < c
      · rw [if_pos h3]; exact Or.inr (Or.inr rfl)
      · rw [if_neg h3]; exact Or.inr (Or.inl rfl)
  · rw [if_neg h]; exact Or.inl rfl
theorem srt_1 {c : Int32} : srt c = 1 ↔ 97 ≤ c ∧ c ≤ 122 := by
  unfold srt f_Oak_isLetter
  by_cases a : c < 97
  · rw [if_pos a, if_pos rfl]
    constructor
    · intro h
      by_cases h2 : c < 48
      · rw [if_pos h2] at h; cases h
      · rw [if_neg h2] at h
        by_cases h3 : 57 < c
        · rw [if_pos h3] at h; cases h
        · rw [if_neg h3] at h; cases h
    · intro h
      exact absurd a (Int32.not_lt.mpr h.1)
  · rw [if_neg a]
    by_cases b : 122 < c
    · rw [if_pos b, if_pos rfl]
      constructor
      · intro h
        by_cases h2 : c < 48
        · rw [if_pos h2] at h; cases h
        · rw [if_neg h2] at h
          by_cases h3 : 57 < c
          · rw [if_pos h3] at h; cases h
          · rw [if_neg h3] at h; cases h
      · intro h
        exact absurd b (Int32.not_lt.mpr h.2)
    · rw [if_neg b, if_neg (by decide)]
      exact ⟨fun _ => ⟨Int32.not_lt.mp a, Int32.not_lt.mp b⟩, fun _ => rfl⟩
theorem srt_2 {c : Int32} : srt c = 2 ↔ 48 ≤ c ∧ c ≤ 57 := by
  have t : ∀ x y : Int32, x ≤ y → x.toInt ≤ y.toInt := fun x y h => iLe.mp h
  unfold srt f_Oak_isLetter
  by_cases a : c < 97
  · rw [if_pos a, if_pos rfl]
    by_cases h2 : c < 48
    · rw [if_pos h2]
      exact ⟨fun h => (by cases h), fun h => absurd h2 (Int32.not_lt.mpr h.1)⟩
    · rw [if_neg h2]
      by_cases h3 : 57 < c
      · rw [if_pos h3]
        exact ⟨fun h => (by cases h), fun h => absurd h3 (Int32.not_lt.mpr h.2)⟩
      · rw [if_neg h3]
        exact ⟨fun _ => ⟨Int32.not_lt.mp h2, Int32.not_lt.mp h3⟩, fun _ => rfl⟩
  · have nd : ¬ (48 ≤ c ∧ c ≤ 57) := fun h => by
      have h1 := t _ _ (Int32.not_lt.mp a)
      have h2 := t _ _ h.2
      rw [show (97 : Int32).toInt = 97 from rfl] at h1
      rw [show (57 : Int32).toInt = 57 from rfl] at h2
      omega
    rw [if_neg a]
    by_cases b : 122 < c
    · rw [if_pos b, if_pos rfl]
      by_cases h2 : c < 48
      · rw [if_pos h2]
        exact ⟨fun h => (by cases h), fun h => absurd h nd⟩
      · rw [if_neg h2]
        by_cases h3 : 57 < c
        · rw [if_pos h3]
          exact ⟨fun h => (by cases h), fun h => absurd h nd⟩
        · rw [if_neg h3]
          exact ⟨fun _ => ⟨Int32.not_lt.mp h2, Int32.not_lt.mp h3⟩, fun h => absurd h nd⟩
    · rw [if_neg b, if_neg (by decide)]
      exact ⟨fun h => (by cases h), fun h => absurd h nd⟩
def sSk (f : Nat → Int32) : Nat → Nat → Nat
  | 0, b => b
  | q + 1, b => if f b = 32 then sSk f q (b + 1) else b
theorem sSk_le (f : Nat → Int32) : ∀ (q b : Nat), b ≤ sSk f q b ∧ sSk f q b ≤ b + q
  | 0, b => ⟨Nat.le_refl _, Nat.le_refl _⟩
  | q + 1, b => by
    unfold sSk
    have := sSk_le f q (b + 1)
    split <;> omega
def sRn (f : Nat → Int32) (s : Nat) : Nat → Nat → Nat
  | 0, e => e
  | q + 1, e => if srt (f e) = s then sRn f s q (e + 1) else e
theorem sRn_le (f : Nat → Int32) (s : Nat) : ∀ (q b : Nat), b ≤ sRn f s q b ∧ sRn f s q b ≤ b + q
  | 0, b => ⟨Nat.le_refl _, Nat.le_refl _⟩
  | q + 1, b => by
    unfold sRn
    have := sRn_le f s q (b + 1)
    split <;> omega
theorem sRn_all (f : Nat → Int32) (s : Nat) : ∀ (q b k : Nat), b ≤ k → k < sRn f s q b → srt (f k) = s
  | 0, b, k, h1, h2 => absurd h2 (by unfold sRn; omega)
  | q + 1, b, k, h1, h2 => by
    unfold sRn at h2
    split at h2
    · rename_i h
      by_cases z : k = b
      · rw [z]; exact h
      · exact sRn_all f s q (b + 1) k (by omega) h2
    · omega
def nxA (f : Nat → Int32) (n b : Nat) : Nat := sSk f (n - b) b
def nxE (f : Nat → Int32) (n a : Nat) : Nat := sRn f (srt (f a)) (n - (a + 1)) (a + 1)
/-- the word or sign behind place b, where t stood ahead: its sort, its place, its end -/
def nx (f : Nat → Int32) (n t b : Nat) : Nat × Nat × Nat :=
  if nxA f n b < n then (if srt (f (nxA f n b)) = 3 then (3, nxA f n b, nxA f n b + 1)
    else (if ((t = 1 ∨ t = 2) ∧ nxA f n b = b) ∨ (srt (f (nxA f n b)) = 2 ∧ 4 < nxE f n (nxA f n b) - nxA f n b) then 4 else srt (f (nxA f n b)), nxA f n b, nxE f n (nxA f n b)))
  else (0, nxA f n b, nxA f n b)
theorem nx_a (f : Nat → Int32) (n t b : Nat) : (nx f n t b).2.1 = nxA f n b := by
  unfold nx
  split
  · split <;> rfl
  · rfl
theorem nx_ok (f : Nat → Int32) {n b : Nat} (t : Nat) (hb : b ≤ n) : b ≤ (nx f n t b).2.1 ∧ (nx f n t b).2.1 ≤ n ∧ (nx f n t b).2.2 ≤ n ∧ (nx f n t b).1 ≤ 4 ∧ ((nx f n t b).1 = 0 → (nx f n t b).2.1 = n ∧ (nx f n t b).2.2 = n) ∧ (¬ (nx f n t b).1 = 0 → (nx f n t b).2.1 < n ∧ (nx f n t b).2.1 + 1 ≤ (nx f n t b).2.2) ∧ ((nx f n t b).1 = 3 → (nx f n t b).2.2 = (nx f n t b).2.1 + 1 ∧ srt (f (nx f n t b).2.1) = 3) ∧ ((nx f n t b).1 = 1 → srt (f (nx f n t b).2.1) = 1) ∧ ((nx f n t b).1 = 2 → srt (f (nx f n t b).2.1) = 2 ∧ (nx f n t b).2.2 - (nx f n t b).2.1 ≤ 4 ∧ ∀ k, (nx f n t b).2.1 ≤ k → k < (nx f n t b).2.2 → srt (f k) = 2) := by
  have ha := sSk_le f (n - b) b
  have hA : nxA f n b = sSk f (n - b) b := rfl
  rw [← hA] at ha
  unfold nx
  by_cases h : nxA f n b < n
  · rw [if_pos h]
    have he := sRn_le f (srt (f (nxA f n b))) (n - (nxA f n b + 1)) (nxA f n b + 1)
    have hE : nxE f n (nxA f n b) = sRn f (srt (f (nxA f n b))) (n - (nxA f n b + 1)) (nxA f n b + 1) := rfl
    rw [← hE] at he
    by_cases h3 : srt (f (nxA f n b)) = 3
    · rw [if_pos h3]
      dsimp only
      exact ⟨ha.1, by omega, by omega, by decide, fun z => absurd z (by decide), fun _ => ⟨h, Nat.le_refl _⟩, fun _ => ⟨rfl, h3⟩, fun z => absurd z (by decide), fun z => absurd z (by decide)⟩
    · rw [if_neg h3]
      by_cases h4 : ((t = 1 ∨ t = 2) ∧ nxA f n b = b) ∨ (srt (f (nxA f n b)) = 2 ∧ 4 < nxE f n (nxA f n b) - nxA f n b)
      · rw [if_pos h4]
        dsimp only
        exact ⟨ha.1, by omega, by show nxE f n (nxA f n b) ≤ n; omega, by decide, fun z => absurd z (by decide), fun _ => ⟨h, he.1⟩, fun z => absurd z (by decide), fun z => absurd z (by decide), fun z => absurd z (by decide)⟩
      · rw [if_neg h4]
        have s3 := srt_3 (f (nxA f n b))
        dsimp only
        refine ⟨ha.1, by omega, by show nxE f n (nxA f n b) ≤ n; omega, by show srt (f (nxA f n b)) ≤ 4; omega, fun z => ?_, fun _ => ⟨h, he.1⟩, fun z => absurd z h3, fun z => z, fun z => ⟨z, ?_, fun k h1 h2 => ?_⟩⟩
        · have z : srt (f (nxA f n b)) = 0 := z
          omega
        · have z : srt (f (nxA f n b)) = 2 := z
          show nxE f n (nxA f n b) - nxA f n b ≤ 4
          have := fun q => h4 (Or.inr ⟨z, q⟩)
          omega
        · have z : srt (f (nxA f n b)) = 2 := z
          have h1 : nxA f n b ≤ k := h1
          have h2 : k < nxE f n (nxA f n b) := h2
          by_cases y : k = nxA f n b
          · rw [y]; exact z
          · rw [← z]
            exact sRn_all f (srt (f (nxA f n b))) _ _ k (by omega) h2
  · rw [if_neg h]
    dsimp only
    exact ⟨ha.1, by show nxA f n b ≤ n; omega, by show nxA f n b ≤ n; omega, by decide, fun _ => ⟨by show nxA f n b = n; omega, by show nxA f n b = n; omega⟩, fun z => absurd rfl z, fun z => absurd z (by decide), fun z => absurd z (by decide), fun z => absurd z (by decide)⟩
-- the class's reader
/-- the reader at a word, all else as in M -/
def oRd (M M1 : oM) (s a e : Int32) : Prop := M1 K_READER 0 2 = s ∧ M1 K_READER 0 3 = a ∧ M1 K_READER 0 4 = e ∧ (∀ j, ¬ (j = 2 ∨ j = 3 ∨ j = 4) → M1 K_READER 0 j = M K_READER 0 j) ∧ oFr (oKs K_READER) M M1
theorem oRd.rf (M : oM) : oRd M M (M K_READER 0 2) (M K_READER 0 3) (M K_READER 0 4) := ⟨rfl, rfl, rfl, fun _ _ => rfl, oFr.rf⟩
theorem oRd.s {M M1 : oM} {s a e v : Int32} (h : oRd M M1 s a e) : oRd M (oUp M1 K_READER 0 2 v) v a e := ⟨oUp_self, (oUp_j (by decide)).trans h.2.1, (oUp_j (by decide)).trans h.2.2.1, fun j hj => (oUp_j (fun z => hj (Or.inl z))).trans (h.2.2.2.1 j hj), h.2.2.2.2.up rfl⟩
theorem oRd.a {M M1 : oM} {s a e v : Int32} (h : oRd M M1 s a e) : oRd M (oUp M1 K_READER 0 3 v) s v e := ⟨(oUp_j (by decide)).trans h.1, oUp_self, (oUp_j (by decide)).trans h.2.2.1, fun j hj => (oUp_j (fun z => hj (Or.inr (Or.inl z)))).trans (h.2.2.2.1 j hj), h.2.2.2.2.up rfl⟩
theorem oRd.e {M M1 : oM} {s a e v : Int32} (h : oRd M M1 s a e) : oRd M (oUp M1 K_READER 0 4 v) s a v := ⟨(oUp_j (by decide)).trans h.1, (oUp_j (by decide)).trans h.2.1, oUp_self, fun j hj => (oUp_j (fun z => hj (Or.inr (Or.inr z)))).trans (h.2.2.2.1 j hj), h.2.2.2.2.up rfl⟩
theorem c_Reader_advance (M : oM) (f : Nat → Int32) (n t b : Nat) (hf : ∀ j, j < n → M K_RBYT 0 j = f j) (hn : M K_READER 0 1 = nI n) (h96 : n ≤ 96) (ht : M K_READER 0 2 = nI t) (ht4 : t ≤ 4) (hb : M K_READER 0 4 = nI b) (hbn : b ≤ n) : oCt 2 k_Reader_advance [.inr (K_READER, 0)] M (fun r M' => r = none ∧ oRd M M' (nI (nx f n t b).1) (nI (nx f n t b).2.1) (nI (nx f n t b).2.2)) := by
  refine oCt.of (ls := [some (.inr (K_READER, 0)), none, none]) mok_Reader_advance rfl rfl ?_
  generalize hQ : (fun (r : Option Int32) (M' : oM) => r = none ∧ oRd M M' (nI (nx f n t b).1) (nI (nx f n t b).2.1) (nI (nx f n t b).2.2)) = Q
  have ha := sSk_le f (n - b) b
  rw [show sSk f (n - b) b = nxA f n b from rfl] at ha
  have bytes : ∀ {M1 : oM} {s a e : Int32}, oRd M M1 s a e → ∀ j, j < n → M1 23 0 j = f j := fun {M1 s a e} h j hj => by
    rw [show M1 23 0 = M 23 0 from h.2.2.2.2 23 0 (show ¬ K_RBYT = K_READER by decide)]
    exact hf j hj
  have len : ∀ {M1 : oM} {s a e : Int32}, oRd M M1 s a e → M1 22 0 1 = nI n := fun {M1 s a e} h => (h.2.2.2.1 1 (by decide)).trans hn
  -- the end: the word's run, and whether it can stand
  have run : ∀ (w : Bool), (w = true ↔ ((t = 1 ∨ t = 2) ∧ nxA f n b = b)) → nxA f n b < n → ∀ (bw : Option oV) (q k : Nat) (M1 : oM), k + q = n → nxA f n b + 1 ≤ k → sRn f (srt (f (nxA f n b))) (n - (nxA f n b + 1)) (nxA f n b + 1) = sRn f (srt (f (nxA f n b))) q k → (srt (f (nxA f n b)) = 3 → k = nxA f n b + 1) → oRd M M1 (nI (srt (f (nxA f n b)))) (nI (nxA f n b)) (nI k) → oG k_Reader_advance 2 140 [some (.inr (K_READER, 0)), bw, some (.inl (bI w))] [] M1 Q := by
    intro w hw hlt bw q
    have s3 := srt_3 (f (nxA f n b))
    have fin : ∀ (k : Nat) (M1 : oM), k ≤ n → nxA f n b + 1 ≤ k → (¬ srt (f (nxA f n b)) = 3 → nxE f n (nxA f n b) = k) → (srt (f (nxA f n b)) = 3 → k = nxA f n b + 1) → oRd M M1 (nI (srt (f (nxA f n b)))) (nI (nxA f n b)) (nI k) → oG k_Reader_advance 2 191 [some (.inr (K_READER, 0)), bw, some (.inl (bI w))] [] M1 Q := by
      intro k M1 hkn hka hE h3 hR
      have eN : nx f n t b = if srt (f (nxA f n b)) = 3 then (3, nxA f n b, nxA f n b + 1) else (if ((t = 1 ∨ t = 2) ∧ nxA f n b = b) ∨ (srt (f (nxA f n b)) = 2 ∧ 4 < nxE f n (nxA f n b) - nxA f n b) then 4 else srt (f (nxA f n b)), nxA f n b, nxE f n (nxA f n b)) := by
        unfold nx
        rw [if_pos hlt]
      have done : ∀ M2 : oM, ∀ s, oRd M M2 (nI s) (nI (nxA f n b)) (nI k) → nx f n t b = (s, nxA f n b, k) → Q none M2 := by
        intro M2 s h2 he
        rw [← hQ, he]
        exact ⟨rfl, h2⟩
      have wrong : ¬ srt (f (nxA f n b)) = 3 → (w = true ∨ (srt (f (nxA f n b)) = 2 ∧ 4 < k - nxA f n b)) → oG k_Reader_advance 2 224 [some (.inr (K_READER, 0)), bw, some (.inl (bI w))] [] M1 Q := by
        intro n3 h
        refine oRun_ok 3 rfl ?_
        refine g_ret rfl rfl (done _ 4 hR.s ?_)
        rw [eN, if_neg n3, hE n3, if_pos (h.imp hw.mp id)]
      have right : (srt (f (nxA f n b)) = 3 ∨ ¬ (w = true ∨ (srt (f (nxA f n b)) = 2 ∧ 4 < k - nxA f n b))) → Q none M1 := by
        intro h
        refine done M1 _ hR ?_
        rw [eN]
        by_cases n3 : srt (f (nxA f n b)) = 3
        · rw [if_pos n3, n3, h3 n3]
        · rw [if_neg n3, hE n3, if_neg (fun z => (h.resolve_left n3) (z.imp hw.mpr id))]
      have at203 : ¬ w = true ∨ srt (f (nxA f n b)) = 3 → oG k_Reader_advance 2 203 [some (.inr (K_READER, 0)), bw, some (.inl (bI w))] [] M1 Q := by
        intro hw3
        refine oRun_ok 3 rfl ?_
        rw [show M1 22 0 2 = _ from hR.1]
        refine g_ic_ne rfl (fun z => ?_) (fun z => ?_)
        · have z : ¬ nI (srt (f (nxA f n b))) = nI 2 := z
          rw [nIe (by omega) (by omega)] at z
          refine g_ret rfl rfl (right ?_)
          rcases hw3 with y | y
          · exact Or.inr (fun v => v.elim y (fun u => z u.1))
          · exact Or.inl y
        · have z : nI (srt (f (nxA f n b))) = nI 2 := z
          rw [nIe (by omega) (by omega)] at z
          refine oRun_ok 6 rfl ?_
          rw [show M1 22 0 4 = _ from hR.2.2.1, show M1 22 0 3 = _ from hR.2.1, nIsub (by omega)]
          refine g_ic_le rfl (fun y => ?_) (fun y => ?_)
          · have y : nI (k - nxA f n b) ≤ nI 4 := y
            rw [nIle (by omega) (by omega)] at y
            refine g_ret rfl rfl (right (Or.inr (fun v => v.elim (fun u => (hw3.resolve_right (by omega)) u) (fun u => by omega))))
          · have y : ¬ nI (k - nxA f n b) ≤ nI 4 := y
            rw [nIle (by omega) (by omega)] at y
            exact wrong (by omega) (Or.inr ⟨z, by omega⟩)
      refine oRun_ok 3 rfl ?_
      rw [show M1 22 0 2 = _ from hR.1]
      refine g_ic_eq rfl (fun z => ?_) (fun z => ?_)
      · have z : nI (srt (f (nxA f n b))) = nI 3 := z
        rw [nIe (by omega) (by omega)] at z
        exact at203 (Or.inr z)
      · have z : ¬ nI (srt (f (nxA f n b))) = nI 3 := z
        rw [nIe (by omega) (by omega)] at z
        refine oRun_ok 1 rfl ?_
        refine g_if_ne rfl (fun y => ?_) (fun y => ?_)
        · exact wrong z (Or.inl (bI_ne.mp y))
        · exact at203 (Or.inl (by rw [bI_eq0.mp y]; decide))
    induction q with
    | zero =>
      intro k M1 hk hka hE h3 hR
      obtain rfl : k = n := by omega
      have hE2 : nxE f k (nxA f k b) = k := hE
      refine oRun_ok 3 rfl ?_
      rw [show M1 22 0 2 = _ from hR.1]
      refine g_ic_eq rfl (fun z => fin k M1 (by omega) hka (fun _ => hE2) h3 hR) (fun z => ?_)
      refine oRun_ok 4 rfl ?_
      rw [show M1 22 0 4 = _ from hR.2.2.1, len hR]
      refine g_ic_ge rfl (fun _ => fin k M1 (by omega) hka (fun _ => hE2) h3 hR) (fun z => absurd (Int32.le_refl _) z)
    | succ q ih =>
      intro k M1 hk hka hE h3 hR
      refine oRun_ok 3 rfl ?_
      rw [show M1 22 0 2 = _ from hR.1]
      refine g_ic_eq rfl (fun z => ?_) (fun z => ?_)
      · have z : nI (srt (f (nxA f n b))) = nI 3 := z
        rw [nIe (by omega) (by omega)] at z
        exact fin k M1 (by omega) hka (fun y => absurd z y) h3 hR
      have z : ¬ nI (srt (f (nxA f n b))) = nI 3 := z
      rw [nIe (by omega) (by omega)] at z
      refine oRun_ok 4 rfl ?_
      rw [show M1 22 0 4 = _ from hR.2.2.1, len hR]
      refine g_ic_ge rfl (fun y => ?_) (fun _ => ?_)
      · rw [nIle (by omega) (by omega)] at y
        omega
      refine oRun_ok 4 rfl ?_
      refine g_iald k rfl rfl hR.2.2.1 (by omega) ?_
      rw [bytes hR k (by omega)]
      refine g_callS rfl rfl rfl rfl mok_Reader_sortOf (by decide) (c_Reader_sortOf _ _) ?_
      rintro r N1 ⟨rfl, e⟩; rw [e, srt_eq]
      refine oRun_ok 2 rfl ?_
      rw [show M1 22 0 2 = _ from hR.1]
      have s3' := srt_3 (f k)
      refine g_ic_ne rfl (fun y => ?_) (fun y => ?_)
      · rw [nIe (by omega) (by omega)] at y
        refine fin k M1 (by omega) hka (fun _ => ?_) h3 hR
        show sRn f (srt (f (nxA f n b))) (n - (nxA f n b + 1)) (nxA f n b + 1) = k
        rw [hE, sRn, if_neg y]
      · rw [nIe (by omega) (by omega)] at y
        refine oRun_ok 7 rfl ?_
        rw [show M1 22 0 4 = _ from hR.2.2.1, nI_1]
        refine ih (k + 1) _ (by omega) (by omega) ?_ (fun y => absurd y z) hR.e
        rw [hE, sRn, if_pos y]
  -- behind the spaces
  have mid : ∀ (w1 : Bool) (M1 : oM), (w1 = true ↔ (t = 1 ∨ t = 2)) → oRd M M1 (nI t) (nI (nxA f n b)) (nI b) → oG k_Reader_advance 2 68 [some (.inr (K_READER, 0)), some (.inl (bI w1)), none] [] M1 Q := by
    intro w1 M1 hw1 hR
    have at88 : ∀ w : Bool, (w = true ↔ ((t = 1 ∨ t = 2) ∧ nxA f n b = b)) → oG k_Reader_advance 2 88 [some (.inr (K_READER, 0)), some (.inl (bI w1)), none] [.inl (bI w)] M1 Q := by
      intro w hw
      refine oRun_ok 5 rfl ?_
      rw [show M1 22 0 3 = _ from hR.2.1]
      refine oRun_ok 4 rfl ?_
      have hR2 := hR.e (v := nI (nxA f n b))
      rw [show oUp M1 22 0 4 (nI (nxA f n b)) 22 0 3 = _ from hR2.2.1, len hR2]
      refine g_ic_lt rfl (fun z => ?_) (fun z => ?_)
      · rw [nIlt (by omega) (by omega)] at z
        refine oRun_ok 5 rfl ?_
        refine g_iald (nxA f n b) rfl rfl hR2.2.1 (by omega) ?_
        rw [bytes hR2 _ z]
        refine g_callS rfl rfl rfl rfl mok_Reader_sortOf (by decide) (c_Reader_sortOf _ _) ?_
        rintro r N1 ⟨rfl, e⟩; rw [e, srt_eq]
        refine oRun_ok 7 rfl ?_
        have hR3 := hR2.s (v := nI (srt (f (nxA f n b))))
        rw [show oUp (oUp M1 22 0 4 (nI (nxA f n b))) 22 0 2 (nI (srt (f (nxA f n b)))) 22 0 4 = _ from hR3.2.2.1, nI_1]
        exact run w hw z _ (n - (nxA f n b + 1)) (nxA f n b + 1) _ (by omega) (Nat.le_refl _) rfl (fun _ => rfl) hR3.e
      · rw [nIlt (by omega) (by omega)] at z
        refine oRun_ok 3 rfl ?_
        refine g_ret rfl rfl ?_
        rw [← hQ]
        have : nx f n t b = (0, nxA f n b, nxA f n b) := by
          unfold nx
          rw [if_neg z]
        rw [this]
        exact ⟨rfl, hR2.s⟩
    refine oRun_ok 1 rfl ?_
    refine g_if_eq rfl (fun z => ?_) (fun z => ?_)
    · have z := bI_eq0.mp z
      refine oRun_ok 1 rfl ?_
      exact at88 false ⟨fun y => (by cases y), fun y => by rw [hw1.mpr y.1] at z; cases z⟩
    · have z := hw1.mp (bI_ne.mp z)
      refine oRun_ok 4 rfl ?_
      rw [show M1 22 0 3 = _ from hR.2.1, show M1 22 0 4 = _ from hR.2.2.1]
      refine g_ic_ne rfl (fun y => ?_) (fun y => ?_)
      · rw [nIe (by omega) (by omega)] at y
        refine oRun_ok 1 rfl ?_
        exact at88 false ⟨fun v => (by cases v), fun v => absurd v.2 y⟩
      · rw [nIe (by omega) (by omega)] at y
        refine oRun_ok 2 rfl ?_
        exact at88 true ⟨fun _ => ⟨z, y⟩, fun _ => rfl⟩
  have skip : ∀ (w1 : Bool), (w1 = true ↔ (t = 1 ∨ t = 2)) → ∀ (q k : Nat) (M1 : oM), k + q = n → b ≤ k → nxA f n b = sSk f q k → oRd M M1 (nI t) (nI k) (nI b) → oG k_Reader_advance 2 30 [some (.inr (K_READER, 0)), some (.inl (bI w1)), none] [] M1 Q := by
    intro w1 hw1 q
    induction q with
    | zero =>
      intro k M1 hk hbk hs hR
      obtain rfl : k = n := by omega
      refine oRun_ok 4 rfl ?_
      rw [show M1 22 0 3 = _ from hR.2.1, len hR]
      refine g_ic_ge rfl (fun _ => ?_) (fun z => absurd (Int32.le_refl _) z)
      exact mid w1 M1 hw1 (by rw [hs]; exact hR)
    | succ q ih =>
      intro k M1 hk hbk hs hR
      refine oRun_ok 4 rfl ?_
      rw [show M1 22 0 3 = _ from hR.2.1, len hR]
      refine g_ic_ge rfl (fun z => ?_) (fun _ => ?_)
      · rw [nIle (by omega) (by omega)] at z
        omega
      refine oRun_ok 4 rfl ?_
      refine g_iald k rfl rfl hR.2.1 (by omega) ?_
      rw [bytes hR k (by omega)]
      refine oRun_ok 1 rfl ?_
      refine g_ic_ne rfl (fun z => ?_) (fun z => ?_)
      · exact mid w1 M1 hw1 (by rw [hs, sSk, if_neg z]; exact hR)
      · refine oRun_ok 7 rfl ?_
        rw [show M1 22 0 3 = _ from hR.2.1, nI_1]
        refine ih (k + 1) _ (by omega) (by omega) ?_ hR.a
        rw [hs, sSk, if_pos z]
  have at21 : ∀ w1 : Bool, (w1 = true ↔ (t = 1 ∨ t = 2)) → oG k_Reader_advance 2 21 [some (.inr (K_READER, 0)), none, none] [.inl (bI w1)] M Q := by
    intro w1 hw1
    refine oRun_ok 5 rfl ?_
    have hR := oRd.rf M
    rw [ht, hb] at hR
    rw [show M 22 0 4 = _ from hb]
    exact skip w1 hw1 (n - b) b _ (by omega) (Nat.le_refl _) rfl hR.a
  refine oRun_ok 3 rfl ?_
  rw [show M 22 0 2 = _ from ht]
  refine g_ic_eq rfl (fun z => ?_) (fun z => ?_)
  · have z : nI t = nI 1 := z
    rw [nIe (by omega) (by omega)] at z
    refine oRun_ok 2 rfl ?_
    exact at21 true ⟨fun _ => Or.inl z, fun _ => rfl⟩
  · have z : ¬ nI t = nI 1 := z
    rw [nIe (by omega) (by omega)] at z
    refine oRun_ok 3 rfl ?_
    rw [show M 22 0 2 = _ from ht]
    refine g_ic_ne rfl (fun y => ?_) (fun y => ?_)
    · have y : ¬ nI t = nI 2 := y
      rw [nIe (by omega) (by omega)] at y
      refine oRun_ok 1 rfl ?_
      exact at21 false ⟨fun v => (by cases v), fun v => by omega⟩
    · have y : nI t = nI 2 := y
      rw [nIe (by omega) (by omega)] at y
      refine oRun_ok 2 rfl ?_
      exact at21 true ⟨fun _ => Or.inr y, fun _ => rfl⟩

