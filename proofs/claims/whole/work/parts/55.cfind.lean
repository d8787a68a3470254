/-! The class: the first row of that NAME, among FUNCTIONS and among locals. -/
def fndA (b : Nat → Int) (x : Int) : Nat → Nat → Int
  | 0, _ => -1
  | m + 1, k => if b k = x then (k : Int) else fndA b x m (k + 1)
theorem fndA_r (b : Nat → Int) (x : Int) : ∀ (m k : Nat), fndA b x m k = -1 ∨ ∃ j : Nat, fndA b x m k = j ∧ k ≤ j ∧ j < k + m ∧ b j = x := by
  intro m
  induction m with
  | zero => intro k; exact Or.inl rfl
  | succ m ih =>
    intro k
    show (if b k = x then (k : Int) else fndA b x m (k + 1)) = -1 ∨ ∃ j : Nat, (if b k = x then (k : Int) else fndA b x m (k + 1)) = j ∧ _
    by_cases h : b k = x
    · rw [if_pos h]
      exact Or.inr ⟨k, rfl, Nat.le_refl _, by omega, h⟩
    · rw [if_neg h]
      rcases ih (k + 1) with h1 | ⟨j, h1, h2, h3, h4⟩
      · exact Or.inl h1
      · exact Or.inr ⟨j, h1, by omega, by omega, h4⟩
theorem ffind_rr {t : Int} {d : Nat} {v : Mem} {Q : Int → Mem → Prop} {x : Int} {c : Nat} (hc : v 1 6 = c) (hc2 : c ≤ 20) (hq : Q (fndA (v 2) x c 0) v) : RR t d 24 [(2, 1), (1, x)] v Q := by
  have lp : ∀ (m k : Nat), k + m = c → Q (fndA (v 2) x m k) v → LL t d 24 2 [(2, 1), (1, x), (3, 0), (0, (k : Int))] [] v Q := by
    intro m
    induction m with
    | zero =>
      intro k hk hq
      refine w_24_2 ?_
      rw [hc]
      exact ⟨fun h => absurd h (by omega), fun _ => hq⟩
    | succ m ih =>
      intro k hk hq
      have k20 : k < 20 := by omega
      have hq : Q (if v 2 k = x then (k : Int) else fndA (v 2) x m (k + 1)) v := hq
      refine w_24_2 ?_
      rw [hc, Int.toNat_natCast, wS k20 (by decide)]
      refine ⟨fun _ => ⟨fun _ => ⟨⟨by omega, by omega⟩, fun h => ?_, fun h => ?_⟩, fun h => absurd (by omega) h⟩, fun h => absurd (by omega) h⟩
      · rw [if_pos (lcm3_0.mp h)] at hq
        exact hq
      · rw [if_neg (fun e => h (lcm3_0.mpr e))] at hq
        exact ih (k + 1) (by omega) hq
  exact w_24 (lp c 0 (Nat.zero_add c) hq)
theorem sfind_rr {t : Int} {d : Nat} {v : Mem} {Q : Int → Mem → Prop} {x : Int} {c : Nat} (hc : v 28 2 = c) (hc2 : c ≤ 30) (hq : Q (fndA (v 29) x c 0) v) : RR t d 131 [(2, 28), (1, x)] v Q := by
  have lp : ∀ (m k : Nat), k + m = c → Q (fndA (v 29) x m k) v → LL t d 131 2 [(2, 28), (1, x), (3, 0), (0, (k : Int))] [] v Q := by
    intro m
    induction m with
    | zero =>
      intro k hk hq
      refine w_131_2 ?_
      rw [hc]
      exact ⟨fun h => absurd h (by omega), fun _ => hq⟩
    | succ m ih =>
      intro k hk hq
      have k30 : k < 30 := by omega
      have hq : Q (if v 29 k = x then (k : Int) else fndA (v 29) x m (k + 1)) v := hq
      refine w_131_2 ?_
      rw [hc, Int.toNat_natCast, wS k30 (by decide)]
      refine ⟨fun _ => ⟨fun _ => ⟨⟨by omega, by omega⟩, fun h => ?_, fun h => ?_⟩, fun h => absurd (by omega) h⟩, fun h => absurd (by omega) h⟩
      · rw [if_pos (lcm3_0.mp h)] at hq
        exact hq
      · rw [if_neg (fun e => h (lcm3_0.mpr e))] at hq
        exact ih (k + 1) (by omega) hq
  exact w_131 (lp c 0 (Nat.zero_add c) hq)
