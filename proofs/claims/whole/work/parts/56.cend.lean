/-! The class's reader behind a fault of THE TEXT: an E ends at once. -/
def lvC (k : Int) : Int := if lvl k < 5 then (lvl k : Int) else -1
theorem level_rr {t : Int} {d : Nat} {v : Mem} {Q : Int → Mem → Prop} {k : Int} (hq : Q (lvC k) v) : RR t d 101 [(0, k)] v Q := by
  refine w_101 ?_
  by_cases h1 : k = 10
  · subst h1; exact ⟨fun _ => hq, fun c => absurd rfl c⟩
  refine ⟨fun c => absurd c h1, fun _ => ?_⟩
  by_cases h2 : k = 20
  · subst h2; exact ⟨fun _ => hq, fun c => absurd rfl c⟩
  refine ⟨fun c => absurd c h2, fun _ => ?_⟩
  by_cases h3 : k = 37
  · subst h3; exact ⟨fun _ => hq, fun c => absurd rfl c⟩
  refine ⟨fun c => absurd c h3, fun _ => ?_⟩
  by_cases h4 : k = 38
  · subst h4; exact ⟨fun _ => hq, fun c => absurd rfl c⟩
  refine ⟨fun c => absurd c h4, fun _ => ?_⟩
  by_cases h5 : k = 42
  · subst h5; exact ⟨fun _ => hq, fun c => absurd rfl c⟩
  refine ⟨fun c => absurd c h5, fun _ => ?_⟩
  by_cases h6 : k = 43
  · subst h6; exact ⟨fun _ => hq, fun c => absurd rfl c⟩
  refine ⟨fun c => absurd c h6, fun _ => ?_⟩
  by_cases h7 : k = 45
  · subst h7; exact ⟨fun _ => hq, fun c => absurd rfl c⟩
  refine ⟨fun c => absurd c h7, fun _ => ?_⟩
  by_cases h8 : k = 47
  · subst h8; exact ⟨fun _ => hq, fun c => absurd rfl c⟩
  refine ⟨fun c => absurd c h8, fun _ => ?_⟩
  by_cases h9 : k = 60
  · subst h9; exact ⟨fun _ => hq, fun c => absurd rfl c⟩
  refine ⟨fun c => absurd c h9, fun _ => ?_⟩
  by_cases g1 : k = 161
  · subst g1; exact ⟨fun _ => hq, fun c => absurd rfl c⟩
  refine ⟨fun c => absurd c g1, fun _ => ?_⟩
  by_cases g2 : k = 188
  · subst g2; exact ⟨fun _ => hq, fun c => absurd rfl c⟩
  refine ⟨fun c => absurd c g2, fun _ => ?_⟩
  by_cases g3 : k = 189
  · subst g3; exact ⟨fun _ => hq, fun c => absurd rfl c⟩
  refine ⟨fun c => absurd c g3, fun _ => ?_⟩
  have e : lvC k = -1 := by
    have e1 : lvl k = 9 := by
      unfold lvl
      rw [if_neg h2, if_neg h1, if_neg (by omega), if_neg (by omega), if_neg (by omega)]
    unfold lvC
    rw [e1]
    rfl
  rw [e] at hq
  exact hq
theorem cf_atom {t : Int} {d : Nat} {v : Mem} {Q : Int → Mem → Prop} {u : Nat → Int} {n la j : Nat} (h : CF v u n la j) (hq : Q 0 (m_124 v)) : RR t (d + 2) 108 [(2, 22)] v Q := by
  refine s_108 ?_
  rw [h.kind]
  exact ⟨fun c => absurd c (by decide), fun _ => ⟨fun c => absurd c (by decide), fun _ => ⟨fun c => absurd c (by decide), fun _ => ⟨fun c => absurd c (by decide), fun _ => ⟨fun c => absurd c (by decide), fun _ => ⟨fun c => absurd c (by decide), fun _ => ⟨fun c => absurd c (by decide), fun _ => ⟨fun c => absurd c (by decide), fun _ => hq⟩⟩⟩⟩⟩⟩⟩⟩
theorem cf_part {t : Int} {d : Nat} {v : Mem} {Q : Int → Mem → Prop} {u : Nat → Int} {n la j : Nat} (h : CF v u n la j) (hq : Q 0 (m_124 v)) : RR t (d + 3) 106 [(2, 22)] v Q := by
  refine s_106 (d := d + 1) (cf_atom h ?_)
  refine s_106_12 (d := d + 1) ?_
  rw [h.refuse_st.kind]
  exact ⟨fun c => absurd c (by decide), fun _ => ⟨fun c => absurd c (by decide), fun _ => hq⟩⟩
theorem cf_front {t : Int} {d : Nat} {v : Mem} {Q : Int → Mem → Prop} {u : Nat → Int} {n la j : Nat} (h : CF v u n la j) (hq : Q 0 (m_124 v)) : RR t (d + 4) 105 [(2, 22)] v Q := by
  refine s_105 (d := d + 2) ?_
  rw [h.kind]
  exact ⟨fun c => absurd c (by decide), fun _ => ⟨fun c => absurd c (by decide), fun _ => RR.imp (cf_part h hq) (fun _ _ h => h)⟩⟩
theorem cf_row {t : Int} {v : Mem} {u : Nat → Int} {n la j : Nat} (h : CF v u n la j) : ∀ (m l D : Nat) (Q : Int → Mem → Prop), l + m = 5 → m + 5 ≤ D → Q 0 (m_124 v) → RR t D 100 [(2, 22), (0, (l : Int))] v Q := by
  intro m
  induction m with
  | zero =>
    intro l D Q hl hD hq
    have e : l = 5 := by omega
    subst e
    obtain ⟨d, rfl⟩ : ∃ d, D = d + 5 := ⟨D - 5, by omega⟩
    exact s_100 (d := d + 3) ⟨fun _ => RR.imp (cf_front h hq) (fun _ _ h => h), fun c => absurd (by decide) c⟩
  | succ m ih =>
    intro l D Q hl hD hq
    have l5 : l < 5 := by omega
    obtain ⟨d, rfl⟩ : ∃ d, D = d + 2 := ⟨D - 2, by omega⟩
    have hlp : ∀ (l4 : Int), 0 < l4 → LL t (d + 2) 100 39 [(2, 22), (0, (l : Int)), (0, (f_156 (v 22 10) v)), (0, 0), (0, l4), (0, 0), (3, 0)] [] (m_124 v) Q := by
      intro l4 h4
      refine s_100_39 (d := d) ⟨fun _ => ?_, fun c => absurd h4 c⟩
      rw [h.refuse_st.kind]
      refine level_rr ⟨fun c => ?_, fun _ => hq⟩
      have e0 : lvC 0 = -1 := by decide
      rw [e0] at c
      exact absurd c (by omega)
    refine s_100 (d := d) ⟨fun c => absurd c (by omega), fun _ => ?_⟩
    rw [wS l5 (by decide)]
    refine ih (l + 1) _ _ (by omega) (by omega) ⟨fun _ => hlp 1 (by decide), fun _ => hlp 41 (by decide)⟩
