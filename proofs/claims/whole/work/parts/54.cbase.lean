/-! The class's reader: its words, its cursor. -/
/-- the words stand; the reader knows the last one -/
def CR (v : Mem) (u : Nat → Int) (n la : Nat) : Prop := WD v n la ∧ n ≤ 3000 ∧ uB (v 12) n = u ∧ v 22 5 = la
/-- no fault of THE TEXT yet, at word i -/
def CN (v : Mem) (u : Nat → Int) (n la i : Nat) : Prop := CR v u n la ∧ v 22 6 = -1 ∧ v 22 10 = i ∧ i ≤ la
/-- a fault of THE TEXT at word j was told: the cursor stands at the END -/
def CF (v : Mem) (u : Nat → Int) (n la j : Nat) : Prop := CR v u n la ∧ v 22 6 = j ∧ v 22 10 = la
theorem CR.kind {v : Mem} {u : Nat → Int} {n la i : Nat} (h : CR v u n la) (hi : i ≤ la) : f_155 (i : Int) v = kd u n i := by
  obtain ⟨⟨w1, w2, w3, w4, w5, w6, w7, w8, w9⟩, h2, h3, h4⟩ := h
  rw [h3] at w4 w8
  unfold f_155
  rw [w2, if_neg (by omega), if_pos (by omega), if_pos (by omega), Int.toNat_natCast]
  rcases Nat.lt_or_eq_of_le hi with h9 | h9
  · exact (w4 i h9).1
  · rw [h9, w5, w8]
theorem CR.place {v : Mem} {u : Nat → Int} {n la i : Nat} (h : CR v u n la) (hi : i ≤ la) : f_156 (i : Int) v = (ps u n i : Nat) := by
  obtain ⟨⟨w1, w2, w3, w4, w5, w6, w7, w8, w9⟩, h2, h3, h4⟩ := h
  rw [h3] at w4 w9
  unfold f_156
  rw [w2, if_neg (by omega), if_pos (by omega), if_pos (by omega), Int.toNat_natCast]
  rcases Nat.lt_or_eq_of_le hi with h9 | h9
  · exact (w4 i h9).2.1
  · rw [h9, w6, w9]
theorem CR.value {v : Mem} {u : Nat → Int} {n la i : Nat} (h : CR v u n la) (hi : i < la) : f_157 (i : Int) v = vl u n i := by
  obtain ⟨⟨w1, w2, w3, w4, w5, w6, w7, w8, w9⟩, h2, h3, h4⟩ := h
  rw [h3] at w4
  unfold f_157
  rw [w2, if_neg (by omega), if_pos (by omega), if_pos (by omega), Int.toNat_natCast]
  exact (w4 i hi).2.2.1
theorem CN.kind {v : Mem} {u : Nat → Int} {n la i : Nat} (h : CN v u n la i) : f_155 (v 22 10) v = kd u n i := by
  rw [h.2.2.1]
  exact h.1.kind h.2.2.2
theorem CN.place {v : Mem} {u : Nat → Int} {n la i : Nat} (h : CN v u n la i) : f_156 (v 22 10) v = (ps u n i : Nat) := by
  rw [h.2.2.1]
  exact h.1.place h.2.2.2
theorem CN.value {v : Mem} {u : Nat → Int} {n la i : Nat} (h : CN v u n la i) (hi : i < la) : f_157 (v 22 10) v = vl u n i := by
  rw [h.2.2.1]
  exact h.1.value hi
theorem CF.kind {v : Mem} {u : Nat → Int} {n la j : Nat} (h : CF v u n la j) : f_155 (v 22 10) v = 0 := by
  rw [h.2.2, h.1.kind (Nat.le_refl _)]
  have := h.1.1.2.2.2.2.2.2.2.1
  rw [h.1.2.2.1] at this
  exact this
theorem CR.keep {v v' : Mem} {u : Nat → Int} {n la : Nat} (h : CR v u n la) (h1 : ∀ c, (c = 12 ∨ (23 ≤ c ∧ c ≤ 26)) → v' c = v c) (h2 : v' 22 5 = v 22 5) : CR v' u n la := by
  unfold CR WD TR at *
  rw [h1 12 (by omega), h1 23 (by omega), h1 24 (by omega), h1 25 (by omega), h1 26 (by omega), h2]
  exact h
theorem CN.next {v : Mem} {u : Nat → Int} {n la i : Nat} (h : CN v u n la i) (hi : i < la) : m_122 v = up v 22 10 ((i + 1 : Nat) : Int) := by
  unfold m_122
  have hn := h.1.2.1
  have hl := h.1.1.2.2.1
  rw [h.2.2.1, h.1.2.2.2, if_pos (by omega), wS (show i < 3001 by omega) (by decide)]
theorem CN.refuse {v : Mem} {u : Nat → Int} {n la i : Nat} (h : CN v u n la i) : m_124 v = up (up v 22 6 (i : Int)) 22 10 (la : Int) := by
  unfold m_124
  rw [if_pos h.2.1, h.2.2.1, h.1.2.2.2]
theorem CF.refuse {v : Mem} {u : Nat → Int} {n la j : Nat} (h : CF v u n la j) : m_124 v = up v 22 10 (la : Int) := by
  unfold m_124
  rw [if_neg (by rw [h.2.1]; omega), h.1.2.2.2]
theorem CN.next_st {v : Mem} {u : Nat → Int} {n la i : Nat} (h : CN v u n la i) (hi : i < la) : CN (m_122 v) u n la (i + 1) := by
  rw [h.next hi]
  exact ⟨h.1.keep (fun c hc => up_ne (by omega)) rfl, h.2.1, rfl, hi⟩
theorem CN.refuse_st {v : Mem} {u : Nat → Int} {n la i : Nat} (h : CN v u n la i) : CF (m_124 v) u n la i := by
  rw [h.refuse]
  exact ⟨h.1.keep (fun c hc => by rw [up_ne (by omega), up_ne (by omega)]) rfl, rfl, rfl⟩
theorem CF.refuse_st {v : Mem} {u : Nat → Int} {n la j : Nat} (h : CF v u n la j) : CF (m_124 v) u n la j := by
  rw [h.refuse]
  exact ⟨h.1.keep (fun c hc => up_ne (by omega)) rfl, h.2.1, rfl⟩
theorem CF.next_st {v : Mem} {u : Nat → Int} {n la j : Nat} (h : CF v u n la j) : m_122 v = v := by
  unfold m_122
  rw [h.2.2, h.1.2.2.2, if_neg (by omega)]
theorem CN.expect {v : Mem} {u : Nat → Int} {n la i : Nat} {k : Int} (h : CN v u n la i) (hk0 : k ≠ 0) : (kd u n i = k ∧ i < la ∧ m_123 k v = m_122 v ∧ CN (m_123 k v) u n la (i + 1)) ∨ (¬ kd u n i = k ∧ m_123 k v = m_124 v ∧ CF (m_123 k v) u n la i) := by
  have e : m_123 k v = if kd u n i = k then m_122 v else m_124 v := by unfold m_123; rw [h.kind]
  by_cases hk : kd u n i = k
  · rw [if_pos hk] at e
    have hi : i < la := by
      rcases Nat.lt_or_eq_of_le h.2.2.2 with h9 | h9
      · exact h9
      · have h8 := h.1.1.2.2.2.2.2.2.2.1
        rw [h.1.2.2.1, ← h9, hk] at h8
        exact absurd h8 hk0
    exact Or.inl ⟨hk, hi, e, by rw [e]; exact h.next_st hi⟩
  · rw [if_neg hk] at e
    exact Or.inr ⟨hk, e, by rw [e]; exact h.refuse_st⟩
