/-! An act and a wanted type leave the words and the cursor alone. -/
theorem act_cell {v : Mem} {a b c : Int} {q : Nat} (h : q < 8 ∨ 11 < q) : m_10 a b c v q = v q := by
  unfold m_10
  by_cases h1 : v 8 4 = 0
  · rw [if_pos h1]
  rw [if_neg h1]
  by_cases h2 : v 8 3 < 0
  · rw [if_pos h2]
  rw [if_neg h2]
  by_cases h3 : v 8 3 < 3100
  · rw [if_pos h3, up_ne (by omega), up_ne (by omega), up_ne (by omega), up_ne (by omega)]
  · rw [if_neg h3]
theorem act_shut {v : Mem} {a b c : Int} (h : v 8 4 = 0) : m_10 a b c v = v := by
  unfold m_10
  rw [if_pos h]
theorem CF.act {v : Mem} {u : Nat → Int} {n la j : Nat} (h : CF v u n la j) (a b c : Int) : CF (m_10 a b c v) u n la j := by
  have e : m_10 a b c v 22 = v 22 := act_cell (by omega)
  refine ⟨h.1.keep (fun q hq => act_cell (by omega)) (by rw [e]), ?_, ?_⟩
  · rw [e]; exact h.2.1
  · rw [e]; exact h.2.2
theorem CN.act {v : Mem} {u : Nat → Int} {n la i : Nat} (h : CN v u n la i) (a b c : Int) : CN (m_10 a b c v) u n la i := by
  have e : m_10 a b c v 22 = v 22 := act_cell (by omega)
  refine ⟨h.1.keep (fun q hq => act_cell (by omega)) (by rw [e]), ?_, ?_, h.2.2.2⟩
  · rw [e]; exact h.2.1
  · rw [e]; exact h.2.2.1
theorem up_at {v : Mem} {q k k' : Nat} {a : Int} (h : k' ≠ k) : up v q k a q k' = v q k' := by
  unfold up
  simp [h]
theorem want_cell {v : Mem} {a b c : Int} {q : Nat} (h : q ≠ 22) : m_126 a b c v q = v q := by
  unfold m_126
  by_cases h1 : v 22 4 = 0
  · rw [if_pos h1]
  rw [if_neg h1]
  by_cases h2 : a = b
  · rw [if_pos h2]
  rw [if_neg h2]
  by_cases h3 : v 22 9 = -1
  · rw [if_pos h3, up_ne h]
  · rw [if_neg h3]
theorem want_at {v : Mem} {a b c : Int} {k : Nat} (h : k ≠ 9) : m_126 a b c v 22 k = v 22 k := by
  unfold m_126
  by_cases h1 : v 22 4 = 0
  · rw [if_pos h1]
  rw [if_neg h1]
  by_cases h2 : a = b
  · rw [if_pos h2]
  rw [if_neg h2]
  by_cases h3 : v 22 9 = -1
  · rw [if_pos h3, up_at h]
  · rw [if_neg h3]
theorem CF.want {v : Mem} {u : Nat → Int} {n la j : Nat} (h : CF v u n la j) (a b c : Int) : CF (m_126 a b c v) u n la j := by
  refine ⟨h.1.keep (fun q hq => want_cell (by omega)) (want_at (by omega)), ?_, ?_⟩
  · rw [want_at (by omega)]; exact h.2.1
  · rw [want_at (by omega)]; exact h.2.2
theorem CN.want {v : Mem} {u : Nat → Int} {n la i : Nat} (h : CN v u n la i) (a b c : Int) : CN (m_126 a b c v) u n la i := by
  refine ⟨h.1.keep (fun q hq => want_cell (by omega)) (want_at (by omega)), ?_, ?_, h.2.2.2⟩
  · rw [want_at (by omega)]; exact h.2.1
  · rw [want_at (by omega)]; exact h.2.2.1
