theorem oDecB_chunks {c : ByteArray} {l : List (Nat × Instr × Nat × Nat)} (N : Nat) (hl : l.length ≤ 100 * N) (h : ∀ i, i < N → oDecB c ((l.drop (100 * i)).take 100) = true) : ∀ q ∈ l, oRowOk c q := by
  intro q hq
  obtain ⟨j, hj⟩ := List.getElem?_of_mem hq
  have hlt := (List.getElem?_eq_some_iff.mp hj).1
  have hm : 100 * (j / 100) + j % 100 = j := by omega
  refine oDecB_ok (h (j / 100) (by omega)) q (List.mem_of_getElem? (i := j % 100) ?_)
  rw [List.getElem?_take_of_lt (by omega), List.getElem?_drop, hm]
  exact hj
set_option maxRecDepth 100000 in
theorem yLd_0 : oDecB (oMC k_Law_law) (((oCT k_Law_law).drop 0).take 100) = true := by decide +kernel
set_option maxRecDepth 100000 in
theorem yLd_1 : oDecB (oMC k_Law_law) (((oCT k_Law_law).drop 100).take 100) = true := by decide +kernel
set_option maxRecDepth 100000 in
theorem yLd_2 : oDecB (oMC k_Law_law) (((oCT k_Law_law).drop 200).take 100) = true := by decide +kernel
set_option maxRecDepth 100000 in
theorem yLd_3 : oDecB (oMC k_Law_law) (((oCT k_Law_law).drop 300).take 100) = true := by decide +kernel
set_option maxRecDepth 100000 in
theorem yLd_4 : oDecB (oMC k_Law_law) (((oCT k_Law_law).drop 400).take 100) = true := by decide +kernel
set_option maxRecDepth 100000 in
theorem yLd_5 : oDecB (oMC k_Law_law) (((oCT k_Law_law).drop 500).take 100) = true := by decide +kernel
set_option maxRecDepth 100000 in
theorem yLd_6 : oDecB (oMC k_Law_law) (((oCT k_Law_law).drop 600).take 100) = true := by decide +kernel
set_option maxRecDepth 100000 in
theorem yLd_7 : oDecB (oMC k_Law_law) (((oCT k_Law_law).drop 700).take 100) = true := by decide +kernel
set_option maxRecDepth 100000 in
theorem yLd_8 : oDecB (oMC k_Law_law) (((oCT k_Law_law).drop 800).take 100) = true := by decide +kernel
set_option maxRecDepth 100000 in
theorem yLd_9 : oDecB (oMC k_Law_law) (((oCT k_Law_law).drop 900).take 100) = true := by decide +kernel
set_option maxRecDepth 100000 in
theorem yLd_10 : oDecB (oMC k_Law_law) (((oCT k_Law_law).drop 1000).take 100) = true := by decide +kernel
set_option maxRecDepth 100000 in
theorem yLd_11 : oDecB (oMC k_Law_law) (((oCT k_Law_law).drop 1100).take 100) = true := by decide +kernel
set_option maxRecDepth 100000 in
theorem yLd_12 : oDecB (oMC k_Law_law) (((oCT k_Law_law).drop 1200).take 100) = true := by decide +kernel
theorem yLaw_dec : oDec k_Law_law := oDecB_chunks 13 (by decide +kernel) (fun i hi => by
  rcases (show i = 0 ∨ i = 1 ∨ i = 2 ∨ i = 3 ∨ i = 4 ∨ i = 5 ∨ i = 6 ∨ i = 7 ∨ i = 8 ∨ i = 9 ∨ i = 10 ∨ i = 11 ∨ i = 12 by omega) with rfl | rfl | rfl | rfl | rfl | rfl | rfl | rfl | rfl | rfl | rfl | rfl | rfl
  · exact yLd_0
  · exact yLd_1
  · exact yLd_2
  · exact yLd_3
  · exact yLd_4
  · exact yLd_5
  · exact yLd_6
  · exact yLd_7
  · exact yLd_8
  · exact yLd_9
  · exact yLd_10
  · exact yLd_11
  · exact yLd_12)
