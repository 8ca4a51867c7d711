/-! ===== what the constructors make: cells by place (the cell of place o lies at h + o; a value 'some (o + 1)' is that cell, 'some 0' the script) ===== -/
abbrev yV : Type := Int32 ⊕ Option Nat
abbrev yC : Type := (Nat × List yV) ⊕ ((Nat × Nat × List (Nat × Int32)) ⊕ (Nat × Nat × List (Nat × Nat)))
def yad (E : oE) (h : Nat) : Nat → Nat
  | 0 => oad E K_SCR 0
  | o + 1 => h + o
def ycv (E : oE) (h : Nat) (v : yV) : Value := match v with
  | .inl x => .int x
  | .inr none => .null
  | .inr (some o) => .ref (yad E h o)
def yIn : List (Nat × Int32) → Nat → Int32
  | [], _ => 0
  | q :: r, j => cond (Nat.beq j q.1) q.2 (yIn r j)
def yRf : List (Nat × Nat) → Nat → Option Nat
  | [], _ => none
  | q :: r, j => cond (Nat.beq j q.1) (some q.2) (yRf r j)
def yEnt (E : oE) (h : Nat) (x : yC) : va_E := match x with
  | .inl q => .inr (q.1, q.2.map (ycv E h))
  | .inr (.inl q) => .inl (ocA E q.1, q.2.1, .inl (yIn q.2.2))
  | .inr (.inr q) => .inl (ocA E q.1, q.2.1, .inr (.inr (.inr (.inr (fun j => (yRf q.2.2 j).map (yad E h))))))
def ySz (x : yC) : Nat := match x with
  | .inl q => q.2.length
  | .inr (.inl q) => q.2.1
  | .inr (.inr q) => q.2.1
def ySl : List yC → Nat
  | [] => 0
  | x :: r => ySz x + ySl r
theorem ySl_app : ∀ (a b : List yC), ySl (a ++ b) = ySl a + ySl b
  | [], b => (Nat.zero_add _).symm
  | x :: a, b => by
    show ySz x + ySl (a ++ b) = ySz x + ySl a + ySl b
    rw [ySl_app a b, Nat.add_assoc]
theorem ySl_set : ∀ (w : List yC) (o : Nat) (x x' : yC), w[o]? = some x → ySz x' = ySz x → ySl (w.set o x') = ySl w
  | [], _, _, _, h, _ => by cases h
  | y :: w, 0, x, x', h, e => by
    have : y = x := by simpa using h
    subst this
    show ySz x' + ySl w = ySz y + ySl w
    rw [e]
  | y :: w, o + 1, x, x', h, e => by
    show ySz y + ySl (w.set o x') = ySz y + ySl w
    rw [ySl_set w o x x' (by simpa using h) e]
theorem ycv_cat (E : oE) (h : Nat) (v : yV) : (ycv E h v).category = 1 := by
  rcases v with x | _ | o <;> rfl
def yR (E : oE) (h : Nat) (w : List yC) (H : Heap) : Prop := H.size = h + w.length ∧ ∀ (o : Nat) (x : yC), w[o]? = some x → va_at E.1 vwCl (h + o, yEnt E h x) H
theorem yR_app {E : oE} {h : Nat} {w : List yC} {x : yC} {H H1 : Heap} (hR : yR E h w H) (z1 : H1.size = H.size + 1) (o1 : ∀ q : Nat, q < H.size → H1[q]? = H[q]?) (hx : va_at E.1 vwCl (H.size, yEnt E h x) H1) : yR E h (w ++ [x]) H1 := by
  obtain ⟨hz, hc⟩ := hR
  refine ⟨by rw [z1, hz, List.length_append]; rfl, fun o y hy => ?_⟩
  by_cases ho : o < w.length
  · rw [List.getElem?_append_left ho] at hy
    exact (hc o y hy).kept (o1 (h + o) (by omega))
  · rw [List.getElem?_append_right (by omega)] at hy
    have hl : o - w.length < 1 := (List.getElem?_eq_some_iff.mp hy).1
    rw [show o - w.length = 0 by omega] at hy
    have : x = y := by simpa using hy
    subst this
    rw [show h + o = H.size by omega]
    exact hx
theorem yR_set {E : oE} {h o : Nat} {w : List yC} {x x0 : yC} {H H1 : Heap} (hR : yR E h w H) (hw : w[o]? = some x0) (z1 : H1.size = H.size) (o1 : ∀ q : Nat, q ≠ h + o → H1[q]? = H[q]?) (hx : va_at E.1 vwCl (h + o, yEnt E h x) H1) : yR E h (w.set o x) H1 := by
  obtain ⟨hz, hc⟩ := hR
  refine ⟨by rw [z1, hz, List.length_set], fun o' y hy => ?_⟩
  by_cases ho : o = o'
  · subst ho
    rw [List.getElem?_set_self (List.getElem?_eq_some_iff.mp hw).1] at hy
    have : x = y := by simpa using hy
    subst this
    exact hx
  · rw [List.getElem?_set_ne ho] at hy
    exact (hc o' y hy).kept (o1 (h + o') (by omega))
theorem yS_grow {h : Nat} {H0 H H1 : Heap} {locs : List Loc} (hS : va_S (fun q => h ≤ q) H0 H locs) (z1 : H.size ≤ H1.size) (o1 : ∀ q : Nat, q < H.size → H1[q]? = H[q]?) : va_S (fun q => h ≤ q) H0 H1 locs := ⟨Nat.le_trans hS.1 z1, fun x h1 h2 => (o1 x (Nat.lt_of_lt_of_le h1 hS.1)).trans (hS.2.1 x h1 h2), hS.2.2⟩
-- locals
def zEn : Nat → List (Option Value) → List (Nat × Value)
  | _, [] => []
  | n, none :: r => zEn (n + 1) r
  | n, some v :: r => (n, v) :: zEn (n + 1) r
theorem zEn_mem : ∀ (l : List (Option Value)) (n : Nat) (q : Nat × Value), q ∈ zEn n l ↔ ∃ i v, l[i]? = some (some v) ∧ q = (n + i, v)
  | [], n, q => by simp [zEn]
  | none :: r, n, q => by
    rw [zEn, zEn_mem r (n + 1) q]
    constructor
    · rintro ⟨i, v, h1, h2⟩
      exact ⟨i + 1, v, by simpa using h1, by rw [h2, show n + 1 + i = n + (i + 1) by omega]⟩
    · rintro ⟨i, v, h1, h2⟩
      cases i with
      | zero => simp at h1
      | succ i => exact ⟨i, v, by simpa using h1, by rw [h2, show n + 1 + i = n + (i + 1) by omega]⟩
  | some w :: r, n, q => by
    rw [zEn, List.mem_cons, zEn_mem r (n + 1) q]
    constructor
    · rintro (rfl | ⟨i, v, h1, h2⟩)
      · exact ⟨0, w, rfl, rfl⟩
      · exact ⟨i + 1, v, by simpa using h1, by rw [h2, show n + 1 + i = n + (i + 1) by omega]⟩
    · rintro ⟨i, v, h1, h2⟩
      cases i with
      | zero =>
        left
        have : w = v := by simpa using h1
        rw [h2, this]
        rfl
      | succ i => exact Or.inr ⟨i, v, by simpa using h1, by rw [h2, show n + 1 + i = n + (i + 1) by omega]⟩
def yLs (E : oE) (h : Nat) (ls : List (Option yV)) : List (Nat × Value) := zEn 0 (ls.map (Option.map (ycv E h)))
theorem yLs_mem {E : oE} {h : Nat} {ls : List (Option yV)} {q : Nat × Value} : q ∈ yLs E h ls ↔ ∃ i v, ls[i]? = some (some v) ∧ q = (i, ycv E h v) := by
  unfold yLs
  rw [zEn_mem]
  constructor
  · rintro ⟨i, v, h1, h2⟩
    rw [List.getElem?_map] at h1
    cases hz : ls[i]? with
    | none => rw [hz] at h1; cases h1
    | some z =>
      cases z with
      | none => rw [hz] at h1; cases h1
      | some u =>
        rw [hz] at h1
        have : ycv E h u = v := by simpa using h1
        exact ⟨i, u, hz, by rw [h2, this, Nat.zero_add]⟩
  · rintro ⟨i, v, h1, h2⟩
    exact ⟨i, ycv E h v, by rw [List.getElem?_map, h1]; rfl, by rw [h2, Nat.zero_add]⟩
theorem yLv_get {E : oE} {h : Nat} {la : Array Slot} {nL : Nat} {ls : List (Option yV)} {i : Nat} {v : yV} (hl : lv_has la nL (yLs E h ls)) (hi : ls[i]? = some (some v)) : la[i]? = some (.val (ycv E h v)) := hl.2.2 (i, ycv E h v) (yLs_mem.mpr ⟨i, v, hi, rfl⟩)
theorem yLv_set {E : oE} {h : Nat} {la' : Array Slot} {nL : Nat} {ls : List (Option yV)} {i : Nat} {v : yV} (hl : lv_has la' nL ((i, ycv E h v) :: (yLs E h ls).filter (fun q => !(q.1 == i) && !(q.1 + 1 == i && q.2.category == 2)))) : lv_has la' nL (yLs E h (ls.set i (some v))) := by
  refine ⟨hl.1, hl.2.1, fun q hq => ?_⟩
  obtain ⟨j, u, h1, h2⟩ := yLs_mem.mp hq
  subst h2
  by_cases hj : j = i
  · subst hj
    have hlt : j < ls.length := by
      have := (List.getElem?_eq_some_iff.mp h1).1
      simpa using this
    rw [List.getElem?_set_self hlt] at h1
    cases h1
    exact hl.2.2 (j, ycv E h v) List.mem_cons_self
  · rw [List.getElem?_set_ne (Ne.symm hj)] at h1
    refine hl.2.2 (j, ycv E h u) (List.mem_cons_of_mem _ (List.mem_filter.mpr ⟨yLs_mem.mpr ⟨j, u, h1, rfl⟩, ?_⟩))
    simp [hj, ycv_cat E h u]
