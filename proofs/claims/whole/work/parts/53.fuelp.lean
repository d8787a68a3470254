/-! The grammar never runs out of fuel: FUNCTIONS, the PROGRAM. -/
theorem PTl_tot {K : Nat → Int} {la : Nat} (hla : K la = 0) {F i st np : Nat} (hi : i ≤ la) (hF : 20 * la + 10 ≤ F) : PTl K F i st np ≠ none ∧ ∀ q, PTl K F i st np = some (.ok q) → q.2.2.1 ≤ la ∧ i < q.2.2.1 := by
  unfold PTl
  by_cases k1 : K i = 41
  · rw [if_pos k1]
    have l1 := lt_la hla hi (by omega)
    by_cases k2 : K (i + 1) = 58
    · rw [if_pos k2]
      have l2 := lt_la (i := i + 1) hla l1 (by omega)
      by_cases k3 : K (i + 2) = 17 ∨ K (i + 2) = 24
      · rw [if_pos k3]
        have l3 := lt_la (i := i + 2) hla l2 (by omega)
        have h := PS_tot hla F 0 (i + 3) st 0 np (by omega) l3 (by rw [if_neg (by decide)]; omega)
        cases hr : PS K F 0 (i + 3) st 0 np with
        | none => exact absurd hr h.1
        | some r =>
          cases r with
          | error e => exact ⟨fun h => (by cases h), fun q h => (by cases h)⟩
          | ok w =>
            have h2 := h.2 w.1 w.2.1 w.2.2.1 w.2.2.2 hr
            refine ⟨fun h => (by cases h), fun q hq => ?_⟩
            cases hq
            exact ⟨h2.1, by show i < w.2.1; omega⟩
      · rw [if_neg k3]
        exact ⟨fun h => (by cases h), fun q h => (by cases h)⟩
    · rw [if_neg k2]
      exact ⟨fun h => (by cases h), fun q h => (by cases h)⟩
  · rw [if_neg k1]
    exact ⟨fun h => (by cases h), fun q h => (by cases h)⟩
theorem PFn_tot {K : Nat → Int} {la : Nat} (hla : K la = 0) {F i fi st : Nat} (hi : i ≤ la) (hF : 20 * la + 10 ≤ F) : PFn K F i fi st ≠ none ∧ ∀ q, PFn K F i fi st = some (.ok q) → q.2.2.2.1 ≤ la ∧ i < q.2.2.2.1 := by
  unfold PFn
  by_cases k0 : K i = 15 ∧ fi < 20
  · rw [if_pos k0]
    have l0 := lt_la hla hi (by omega)
    by_cases k1 : K (i + 1) = 2
    · rw [if_pos k1]
      have l1 := lt_la (i := i + 1) hla l0 (by omega)
      by_cases k2 : K (i + 2) = 40
      · rw [if_pos k2]
        have l2 := lt_la (i := i + 2) hla l1 (by omega)
        have hP : ∀ p : Option (Except Nat (List (Nat × Int) × Nat)), p = (if K (i + 3) = 41 then some (.ok ([], i + 3)) else PPar K 8 (i + 3) 0) → p ≠ none ∧ ∀ q, p = some (.ok q) → q.2 ≤ la ∧ i < q.2 := by
          intro p hp
          by_cases k3 : K (i + 3) = 41
          · rw [if_pos k3] at hp
            subst hp
            refine ⟨fun h => (by cases h), fun q hq => ?_⟩
            cases hq
            exact ⟨l2, by show i < i + 3; omega⟩
          · rw [if_neg k3] at hp
            subst hp
            have h := PPar_tot hla 8 (i + 3) 0 (by omega) l2 (by omega)
            exact ⟨h.1, fun q hq => ⟨(h.2 q hq).1, by have := (h.2 q hq).2; omega⟩⟩
        generalize (if K (i + 3) = 41 then some (Except.ok (([] : List (Nat × Int)), i + 3)) else PPar K 8 (i + 3) 0) = p at hP ⊢
        have hp := hP p rfl
        match p, hp with
        | none, hp => exact absurd rfl hp.1
        | some (.error e), _ => exact ⟨fun h => (by cases h), fun q h => (by cases h)⟩
        | some (.ok w), hp =>
          have h1 := hp.2 w rfl
          have h2 := PTl_tot hla (st := st) (np := w.1.length) h1.1 hF
          dsimp only
          cases hT : PTl K F w.2 st w.1.length with
          | none => exact absurd hT h2.1
          | some r =>
            cases r with
            | error e => exact ⟨fun h => (by cases h), fun q h => (by cases h)⟩
            | ok b =>
              have h3 := h2.2 b hT
              refine ⟨fun h => (by cases h), fun q hq => ?_⟩
              cases hq
              exact ⟨h3.1, by show i < b.2.2.1; omega⟩
      · rw [if_neg k2]
        exact ⟨fun h => (by cases h), fun q h => (by cases h)⟩
    · rw [if_neg k1]
      exact ⟨fun h => (by cases h), fun q h => (by cases h)⟩
  · rw [if_neg k0]
    exact ⟨fun h => (by cases h), fun q h => (by cases h)⟩
theorem PPr_tot {K : Nat → Int} {la F : Nat} (hla : K la = 0) (hF : 20 * la + 10 ≤ F) : ∀ (g i fi st : Nat), fi ≤ 20 → i ≤ la → 21 ≤ g + fi → PPr K F g i fi st ≠ none := by
  intro g
  induction g with
  | zero => intro i fi st h1 _ h; omega
  | succ g ih =>
    intro i fi st hfi hi hg
    unfold PPr
    have h1 := PFn_tot hla (fi := fi) (st := st) hi hF
    cases hp : PFn K F i fi st with
    | none => exact absurd hp h1.1
    | some r =>
      cases r with
      | error e => exact fun h => (by cases h)
      | ok q =>
        obtain ⟨hlt, -⟩ := PFn_ok hp
        have h2 := h1.2 q hp
        dsimp only
        by_cases k0 : K q.2.2.2.1 = 0
        · rw [if_pos k0]
          exact fun h => (by cases h)
        · rw [if_neg k0]
          have h3 := ih q.2.2.2.1 (fi + 1) q.2.2.2.2 (by omega) h2.1 (by omega)
          cases hP : PPr K F g q.2.2.2.1 (fi + 1) q.2.2.2.2 with
          | none => exact absurd hP h3
          | some r =>
            cases r with
            | error e => exact fun h => (by cases h)
            | ok l => exact fun h => (by cases h)
/-- the grammar decides every text -/
theorem PPr_some {K : Nat → Int} {la : Nat} (hla : K la = 0) (hl : la ≤ 3200) : ∃ r, PPr K 70000 21 0 0 0 = some r := by
  have h := PPr_tot hla (F := 70000) (by omega) 21 0 0 0 (by omega) (by omega) (by omega)
  cases hp : PPr K 70000 21 0 0 0 with
  | none => exact absurd hp h
  | some r => exact ⟨r, rfl⟩
