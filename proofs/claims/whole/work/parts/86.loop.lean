/-! ## the model's loop keeps step -/
theorem op_rk {f : Nat → Int32} {key lev : Nat} {t : Tk} (hl : lev < 5) (h : jn f lev t = true) : f_Mod_rank (opC f key t) = nI (lev + 1) ∧ ¬ opC f key t = 0 := by
  have s : ∀ c, sgn f t c = true → f t.2.1 = c := fun c hc => (of_decide_eq_true hc).2
  unfold opC
  match lev, hl with
  | 0, _ => rw [s _ h, show trC key (-124) = -1 from rfl]; decide
  | 1, _ => rw [s _ h, show trC key (-38) = -2 from rfl]; decide
  | 2, _ =>
    have h : (sgn f t 60 || (sgn f t 61 || sgn f t 62)) = true := h
    rw [Bool.or_eq_true, Bool.or_eq_true] at h
    rcases h with h | h | h
    · rw [s _ h, show trC key (-60) = -3 from rfl]; decide
    · rw [s _ h, show trC key (-61) = -4 from rfl]; decide
    · rw [s _ h, show trC key (-62) = -5 from rfl]; decide
  | 3, _ =>
    have h : (sgn f t 43 || sgn f t 45) = true := h
    rw [Bool.or_eq_true] at h
    rcases h with h | h
    · rw [s _ h, show trC key (-43) = -6 from rfl]; decide
    · rw [s _ h, show trC key (-45) = -7 from rfl]; decide
  | 4, _ =>
    have h : (sgn f t 42 || sgn f t 47) = true := h
    rw [Bool.or_eq_true] at h
    rcases h with h | h
    · rw [s _ h, show trC key (-42) = -8 from rfl]; decide
    · rw [s _ h, show trC key (-47) = -9 from rfl]; decide
theorem nO_le (S : List Int32) : nO S ≤ S.length := List.countP_le_length
def yP (M0 : oM) (f : Nat → Int32) (n key : Nat) (Q : Option Int32 → oM → Prop) : oPT := fun w t p C S T A => ∀ (M : oM) (x : Option oV), yMe M f n key p t C S T A → Tv f n t → C.length + S.length ≤ t.2.1 → p ≤ 8 → yTf M0 M → oG k_Mod_takesE 3 28 [some (.inr (K_MOD, 0)), some (.inl (nI p)), some (.inl (nI (nO S))), some (.inl (bI w)), x] [] M Q
def yF (M0 : oM) (Q : Option Int32 → oM → Prop) : Tk → Prop := fun t => ∀ M, M K_MOD 0 16 = nI t.2.1 → yTf M0 M → Q (some 0) M
theorem yMe.push {M : oM} {f : Nat → Int32} {n key p : Nat} {t : Tk} {C S : List Int32} {T : Nat → Bool} {A : Nat} {v : Int32} (h : yMe M f n key p t C S T A) : yMe (oUp (oUp M K_M_waits 0 S.length v) K_MOD 0 27 (nI (S.length + 1))) f n key p t C (v :: S) T A := by
  obtain ⟨⟨b1, b2, b3, b4, b5, b6, b7, b8⟩, h2, ⟨c1, c2, c3, c4⟩, h7, h8⟩ := h
  have e : ∀ j, ¬ j = 27 → (oUp (oUp M K_M_waits 0 S.length v) K_MOD 0 27 (nI (S.length + 1))) K_MOD 0 j = M K_MOD 0 j := fun j hj => (oUp_j hj).trans (congrFun (congrFun (oUp_k (by decide)) 0) j)
  have e2 : ∀ k, ¬ k = K_MOD → ¬ k = K_M_waits → (oUp (oUp M K_M_waits 0 S.length v) K_MOD 0 27 (nI (S.length + 1))) k = M k := fun k h1 h2 => (oUp_k h1).trans (oUp_k h2)
  refine ⟨⟨fun j hj => ?_, (e _ (by decide)).trans b2, (e _ (by decide)).trans b3, (e _ (by decide)).trans b4, (e _ (by decide)).trans b5, fun q => (e _ (by decide)).trans (b6 q), fun q => (e _ (by decide)).trans (b7 q), by rw [e 19 (by decide)]; exact b8⟩, (e _ (by decide)).trans h2, ⟨(e _ (by decide)).trans c1, fun j hj => ?_, oUp_self, ⟨?_, ?_⟩⟩, (e _ (by decide)).trans h7, fun j hj => ?_⟩
  · rw [e2 _ (by decide) (by decide)]; exact b1 j hj
  · rw [e2 _ (by decide) (by decide)]; exact c2 j hj
  · rw [oUp_k (by decide)]; exact oUp_self
  · exact ySt_cg (M := oUp M K_M_waits 0 S.length v) (by rw [oUp_k (by decide)]) (ySt_up (Nat.le_refl _) c4)
  · rw [e2 _ (by decide) (by decide)]; exact h8 j hj
theorem yMe.pop {M : oM} {f : Nat → Int32} {n key p : Nat} {t : Tk} {C S : List Int32} {T : Nat → Bool} {A : Nat} {v : Int32} (h : yMe M f n key p t C (v :: S) T A) : yMe (oUp M K_MOD 0 27 (nI S.length)) f n key p t C S T A := by
  obtain ⟨⟨b1, b2, b3, b4, b5, b6, b7, b8⟩, h2, ⟨c1, c2, c3, c4⟩, h7, h8⟩ := h
  have e : ∀ j, ¬ j = 27 → (oUp M K_MOD 0 27 (nI S.length)) K_MOD 0 j = M K_MOD 0 j := fun j hj => oUp_j hj
  have e2 : ∀ k, ¬ k = K_MOD → (oUp M K_MOD 0 27 (nI S.length)) k = M k := fun k h1 => oUp_k h1
  refine ⟨⟨fun j hj => ?_, (e _ (by decide)).trans b2, (e _ (by decide)).trans b3, (e _ (by decide)).trans b4, (e _ (by decide)).trans b5, fun q => (e _ (by decide)).trans (b6 q), fun q => (e _ (by decide)).trans (b7 q), by rw [e 19 (by decide)]; exact b8⟩, (e _ (by decide)).trans h2, ⟨(e _ (by decide)).trans c1, fun j hj => ?_, oUp_self, ySt_cg (by rw [e2 _ (by decide)]) c4.2⟩, (e _ (by decide)).trans h7, fun j hj => ?_⟩
  · rw [e2 _ (by decide)]; exact b1 j hj
  · rw [e2 _ (by decide)]; exact c2 j hj
  · rw [e2 _ (by decide)]; exact h8 j hj
/-- the flag of an open bracket is set -/
theorem yMe.flag {M : oM} {f : Nat → Int32} {n key p p' : Nat} {t : Tk} {C S : List Int32} {T : Nat → Bool} {A : Nat} {b : Bool} (h : yMe M f n key p t C S T A) (hp : p' = p ∨ p' = p + 1) : yMe (oUp M K_M_tested 0 p' (bI b)) f n key p' t C S (upT T p' b) A := by
  obtain ⟨⟨b1, b2, b3, b4, b5, b6, b7, b8⟩, h2, ⟨c1, c2, c3, c4⟩, h7, h8⟩ := h
  have e2 : ∀ k, ¬ k = K_M_tested → (oUp M K_M_tested 0 p' (bI b)) k = M k := fun k h1 => oUp_k h1
  have e : ∀ j, (oUp M K_M_tested 0 p' (bI b)) K_MOD 0 j = M K_MOD 0 j := fun j => by rw [e2 _ (by decide)]
  refine ⟨⟨fun j hj => ?_, (e _).trans b2, (e _).trans b3, (e _).trans b4, (e _).trans b5, fun q => (e _).trans (b6 q), fun q => (e _).trans (b7 q), by rw [e 19]; exact b8⟩, (e _).trans h2, ⟨(e _).trans c1, fun j hj => ?_, (e _).trans c3, ySt_cg (by rw [e2 _ (by decide)]) c4⟩, (e _).trans h7, fun j hj => ?_⟩
  · rw [e2 _ (by decide)]; exact b1 j hj
  · rw [e2 _ (by decide)]; exact c2 j hj
  · unfold upT
    by_cases hjp : j = p'
    · rw [if_pos hjp, hjp]; exact oUp_self
    · rw [if_neg hjp]
      exact (oUp_j hjp).trans (h8 j (by omega))

