/-! ===== cells that come one after the other: the cell of place o lies at h + o ===== -/
def yAd (h : Nat) (w : List va_E) : va_W := w.mapIdx (fun j e => (h + j, e))
theorem yAd_at {h o : Nat} {w : List va_E} {e : va_E} (hw : w[o]? = some e) : (yAd h w)[o]? = some (h + o, e) := by
  unfold yAd
  rw [List.getElem?_mapIdx, hw]
  rfl
theorem yAd_of {h o : Nat} {w : List va_E} {q : Nat × va_E} (hq : (yAd h w)[o]? = some q) : q.1 = h + o ∧ w[o]? = some q.2 := by
  unfold yAd at hq
  rw [List.getElem?_mapIdx] at hq
  cases hw : w[o]? with
  | none => rw [hw] at hq; cases hq
  | some e => rw [hw] at hq; cases hq; exact ⟨rfl, rfl⟩
theorem yAd_D (h : Nat) (w : List va_E) : va_D (fun q => h ≤ q) (yAd h w) := by
  refine ⟨fun i j p q hp hq e => ?_, fun k q hq => ?_⟩
  · have := (yAd_of hp).1
    have := (yAd_of hq).1
    omega
  · have := (yAd_of hq).1
    show h ≤ q.1
    omega
theorem yAd_len (h : Nat) (w : List va_E) : (yAd h w).length = w.length := List.length_mapIdx
theorem yAd_app (h : Nat) (w : List va_E) (e : va_E) : yAd h (w ++ [e]) = yAd h w ++ [(h + w.length, e)] := by
  unfold yAd
  rw [List.mapIdx_append]
  show List.mapIdx (fun j e => (h + j, e)) w ++ [(h + (0 + w.length), e)] = _
  rw [Nat.zero_add]
theorem yAd_set (h : Nat) (w : List va_E) (o : Nat) (e : va_E) : yAd h (w.set o e) = (yAd h w).set o (h + o, e) := by
  apply List.ext_getElem?
  intro j
  unfold yAd
  rw [List.getElem?_mapIdx]
  by_cases hj : o = j
  · subst hj
    by_cases hl : o < w.length
    · rw [List.getElem?_set_self hl, List.getElem?_set_self (by rw [List.length_mapIdx]; exact hl)]
      rfl
    · rw [List.getElem?_eq_none (by rw [List.length_set]; omega), List.getElem?_eq_none (by rw [List.length_set, List.length_mapIdx]; omega)]
      rfl
  · rw [List.getElem?_set_ne hj, List.getElem?_set_ne hj, List.getElem?_mapIdx]

