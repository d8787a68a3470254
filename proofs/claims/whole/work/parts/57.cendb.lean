/-! Behind a fault of THE TEXT: refuse, expect, an E and a BLOCK leave the memory as it is. -/
theorem up_id {v : Mem} {c k : Nat} {a : Int} (h : v c k = a) : up v c k a = v := by
  funext c' k'
  unfold up
  by_cases h1 : c' = c
  · by_cases h2 : k' = k
    · subst h1; subst h2; simp [h]
    · simp [h2]
  · simp [h1]
theorem CF.refuse_id {v : Mem} {u : Nat → Int} {n la j : Nat} (h : CF v u n la j) : m_124 v = v := by
  rw [h.refuse]
  exact up_id h.2.2
theorem CF.expect_id {v : Mem} {u : Nat → Int} {n la j : Nat} (h : CF v u n la j) (k : Int) : m_123 k v = v := by
  unfold m_123
  by_cases c : f_155 (v 22 10) v = k
  · rw [if_pos c, h.next_st]
  · rw [if_neg c, h.refuse_id]
theorem cf_e {t : Int} {v : Mem} {u : Nat → Int} {n la j D : Nat} {Q : Int → Mem → Prop} (h : CF v u n la j) (hD : 10 ≤ D) (hq : Q 0 v) : RR t D 100 [(2, 22), (0, 0)] v Q := by
  have h1 := cf_row (t := t) h 5 0 D Q (by omega) hD (by rw [h.refuse_id]; exact hq)
  exact h1
theorem cf_rowOf {t : Int} {v : Mem} {u : Nat → Int} {n la j d : Nat} {Q : Int → Mem → Prop} {a : Int} (h : CF v u n la j) (hq : Q 0 (m_126 a 0 (f_156 (v 22 10) v) v)) : RR t (d + 11) 99 [(2, 22), (0, a)] v Q := by
  exact s_99 (d := d + 9) (cf_e h (by omega) hq)
theorem cut_id {v : Mem} (h0 : 0 ≤ v 28 2) : up v 28 2 (f_275 0 (f_276 (v 28 2) (v 28 2) v) v) = v := by
  apply up_id
  have e : f_276 (v 28 2) (v 28 2) v = v 28 2 := by unfold f_276; exact if_neg (by omega)
  rw [e]
  unfold f_275
  by_cases c : 0 < v 28 2
  · rw [if_pos c]
  · rw [if_neg c]; omega
theorem cf_block {t : Int} {v : Mem} {u : Nat → Int} {n la j d : Nat} {Q : Int → Mem → Prop} (h : CF v u n la j) (h0 : 0 ≤ v 28 2) (hq : Q 0 v) : RR t (d + 2) 90 [(2, 22)] v Q := by
  refine s_90 (d := d) ?_
  rw [h.expect_id]
  refine s_90_16 (d := d) ⟨fun c => absurd c (by decide), fun _ => ?_⟩
  rw [h.kind, h.expect_id]
  refine ⟨fun c => absurd c (by decide), fun _ => ⟨fun _ => ⟨fun c => absurd c (by omega), fun _ => ?_⟩, fun c => absurd rfl c⟩⟩
  rw [cut_id h0]
  exact hq
