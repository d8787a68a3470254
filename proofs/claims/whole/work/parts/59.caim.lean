/-! aimHere, and a fault of a name: what they leave alone. -/
/-- what aimHere leaves -/
def aimM (a : Int) (v : Mem) : Mem := if 0 ≤ a ∧ a < v 8 3 then up v 10 (Int.toNat a) (v 8 3) else v
theorem aim_rr {t : Int} {d : Nat} {v : Mem} {Q : Int → Mem → Prop} {a : Int} (h8 : v 8 3 ≤ 3100) (hq : Q 0 (aimM a v)) : RR t d 11 [(2, 8), (0, a)] v Q := by
  refine w_11 ⟨fun c => ?_, fun c => ⟨fun c2 => ⟨⟨by omega, by omega⟩, ?_⟩, fun c2 => ?_⟩⟩
  · have e : aimM a v = v := if_neg (by omega)
    rw [e] at hq
    exact hq
  · have e : aimM a v = up v 10 (Int.toNat a) (v 8 3) := if_pos ⟨by omega, c2⟩
    rw [e] at hq
    exact hq
  · have e : aimM a v = v := if_neg (fun h => c2 h.2)
    rw [e] at hq
    exact hq
theorem aim_cell {v : Mem} {a : Int} {q : Nat} (h : q ≠ 10) : aimM a v q = v q := by
  unfold aimM
  by_cases h1 : 0 ≤ a ∧ a < v 8 3
  · rw [if_pos h1, up_ne h]
  · rw [if_neg h1]
theorem CF.aim {v : Mem} {u : Nat → Int} {n la j : Nat} (h : CF v u n la j) (a : Int) : CF (aimM a v) u n la j := by
  have e : aimM a v 22 = v 22 := aim_cell (by omega)
  refine ⟨h.1.keep (fun q hq => aim_cell (by omega)) (by rw [e]), ?_, ?_⟩
  · rw [e]; exact h.2.1
  · rw [e]; exact h.2.2
theorem CN.aim {v : Mem} {u : Nat → Int} {n la i : Nat} (h : CN v u n la i) (a : Int) : CN (aimM a v) u n la i := by
  have e : aimM a v 22 = v 22 := aim_cell (by omega)
  refine ⟨h.1.keep (fun q hq => aim_cell (by omega)) (by rw [e]), ?_, ?_, h.2.2.2⟩
  · rw [e]; exact h.2.1
  · rw [e]; exact h.2.2.1
theorem fnm_cell {v : Mem} {a : Int} {q : Nat} (h : q ≠ 22) : m_125 a v q = v q := by
  unfold m_125
  by_cases h1 : v 22 4 = 0
  · rw [if_pos h1]
  rw [if_neg h1]
  by_cases h2 : v 22 8 = -1
  · rw [if_pos h2, up_ne h]
  rw [if_neg h2]
  by_cases h3 : a < v 22 8
  · rw [if_pos h3, up_ne h]
  · rw [if_neg h3]
theorem fnm_at {v : Mem} {a : Int} {k : Nat} (h : k ≠ 8) : m_125 a v 22 k = v 22 k := by
  unfold m_125
  by_cases h1 : v 22 4 = 0
  · rw [if_pos h1]
  rw [if_neg h1]
  by_cases h2 : v 22 8 = -1
  · rw [if_pos h2, up_at h]
  rw [if_neg h2]
  by_cases h3 : a < v 22 8
  · rw [if_pos h3, up_at h]
  · rw [if_neg h3]
theorem CF.fnm {v : Mem} {u : Nat → Int} {n la j : Nat} (h : CF v u n la j) (a : Int) : CF (m_125 a v) u n la j := by
  refine ⟨h.1.keep (fun q hq => fnm_cell (by omega)) (fnm_at (by omega)), ?_, ?_⟩
  · rw [fnm_at (by omega)]; exact h.2.1
  · rw [fnm_at (by omega)]; exact h.2.2
theorem CN.fnm {v : Mem} {u : Nat → Int} {n la i : Nat} (h : CN v u n la i) (a : Int) : CN (m_125 a v) u n la i := by
  refine ⟨h.1.keep (fun q hq => fnm_cell (by omega)) (fnm_at (by omega)), ?_, ?_, h.2.2.2⟩
  · rw [fnm_at (by omega)]; exact h.2.1
  · rw [fnm_at (by omega)]; exact h.2.2.1
