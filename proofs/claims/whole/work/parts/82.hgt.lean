/-! How deep trees are: an E has no more levels than SIGNS, S lie within one another 8 deep. -/
def hgt : Jvm.Term → Nat
  | .elem _ e => hgt e
  | .mul _ e => hgt e + 1
  | .add _ p => hgt p + 1
  | .div s e => max (hgt s) (hgt e) + 1
  | .rem s p => max (hgt s) (hgt p) + 1
  | .op2 _ _ e => hgt e + 1
  | .sub a b => max (hgt a) (hgt b)
  | _ => 0
theorem PE_hgt {K : Nat → Int} : ∀ (f m : Nat) (x : Jvm.Term) (i sg nb : Nat) (e : Jvm.Term) (i' sg' : Nat), PE K f m x i sg nb = some (.ok (e, i', sg')) → sg ≤ 40 → (m < 8 ∨ (10 ≤ m ∧ m < 15) ∨ m = 16 ∨ m = 17) → sg ≤ sg' ∧ sg' ≤ 40 ∧ hgt e + sg ≤ (if m < 10 ∨ 16 < m then 0 else hgt x) + sg' := by
  intro f
  induction f with
  | zero => intro m x i sg nb e i' sg' h; cases h
  | succ f ih =>
    intro m x i sg nb e i' sg' h hs hm
    by_cases m5 : m < 5
    · rw [PE_row m5] at h
      rcases bnd_some h with ⟨j, -, er⟩ | ⟨y, i1, s1, h1, h2⟩
      · cases er
      · have a1 := ih _ _ _ _ _ _ _ _ h1 hs (by omega)
        have a2 := ih _ _ _ _ _ _ _ _ h2 a1.2.1 (by omega)
        rw [if_pos (by omega)] at a1
        rw [if_neg (by omega)] at a2
        rw [if_pos (by omega)]
        omega
    by_cases m5 : m = 5
    · subst m5
      rw [PE_5] at h
      rw [if_pos (by omega)]
      split at h
      · split at h
        · cases h
        · rcases bnd_some h with ⟨j, -, er⟩ | ⟨y, i1, s1, h1, h2⟩
          · cases er
          · have a1 := ih _ _ _ _ _ _ _ _ h1 (by omega) (by omega)
            rw [if_pos (by omega)] at a1
            cases h2
            show _ ∧ _ ∧ hgt y + 1 + sg ≤ _
            omega
      · have a1 := ih _ _ _ _ _ _ _ _ h hs (by omega)
        rw [if_pos (by omega)] at a1
        exact a1
    by_cases m6 : m = 6
    · subst m6
      rw [PE_6] at h
      rcases bnd_some h with ⟨j, -, er⟩ | ⟨y, i1, s1, h1, h2⟩
      · cases er
      · have a1 := ih _ _ _ _ _ _ _ _ h1 hs (by omega)
        have a2 := ih _ _ _ _ _ _ _ _ h2 a1.2.1 (by omega)
        rw [if_pos (by omega)] at a1
        rw [if_neg (by omega)] at a2
        rw [if_pos (by omega)]
        omega
    by_cases m7 : m = 7
    · subst m7
      rw [PE_7] at h
      rw [if_pos (by omega)]
      split at h
      · cases h
        exact ⟨Nat.le_refl _, hs, by show 0 + sg ≤ 0 + sg; omega⟩
      split at h
      · split at h
        · split at h
          · cases h
          split at h
          · cases h
          split at h
          · cases h
            show _ ∧ _ ∧ 0 + 1 + sg ≤ _
            omega
          · rcases bnd_some h with ⟨j, -, er⟩ | ⟨y, i1, s1, h1, h2⟩
            · cases er
            · have a1 := ih _ _ _ _ _ _ _ _ h1 (by omega) (by omega)
              rw [if_pos (by omega)] at a1
              split at h2
              · cases h2
                show _ ∧ _ ∧ hgt y + 1 + sg ≤ _
                omega
              · cases h2
        · cases h
          exact ⟨Nat.le_refl _, hs, by show 0 + sg ≤ 0 + sg; omega⟩
      split at h
      · split at h
        · cases h
        · rcases bnd_some h with ⟨j, -, er⟩ | ⟨y, i1, s1, h1, h2⟩
          · cases er
          · have a1 := ih _ _ _ _ _ _ _ _ h1 hs (by omega)
            rw [if_pos (by omega)] at a1
            split at h2
            · cases h2
              exact a1
            · cases h2
      split at h
      · split at h
        · cases h
        split at h
        · rcases bnd_some h with ⟨j, -, er⟩ | ⟨y, i1, s1, h1, h2⟩
          · cases er
          · have a1 := ih _ _ _ _ _ _ _ _ h1 (by omega) (by omega)
            rw [if_pos (by omega)] at a1
            split at h2
            · cases h2
              show _ ∧ _ ∧ hgt y + 1 + sg ≤ _
              omega
            · cases h2
        · cases h
      split at h
      · split at h
        · cases h
        split at h
        · rcases bnd_some h with ⟨j, -, er⟩ | ⟨y, i1, s1, h1, h2⟩
          · cases er
          · have a1 := ih _ _ _ _ _ _ _ _ h1 (by omega) (by omega)
            rw [if_pos (by omega)] at a1
            split at h2
            · rcases bnd_some h2 with ⟨j, -, er⟩ | ⟨z, i2, s2, h3, h4⟩
              · cases er
              · have a2 := ih _ _ _ _ _ _ _ _ h3 a1.2.1 (by omega)
                rw [if_pos (by omega)] at a2
                split at h4
                · cases h4
                  show _ ∧ _ ∧ max (hgt y) (hgt z) + 1 + sg ≤ _
                  omega
                · cases h4
            · cases h2
        · cases h
      · cases h
    by_cases m15 : 10 ≤ m ∧ m < 15
    · obtain ⟨l, rfl⟩ : ∃ l, m = l + 10 := ⟨m - 10, by omega⟩
      rw [PE_lp (by omega)] at h
      rw [if_neg (by omega)]
      split at h
      · split at h
        · cases h
        · rcases bnd_some h with ⟨j, -, er⟩ | ⟨y, i1, s1, h1, h2⟩
          · cases er
          · have a1 := ih _ _ _ _ _ _ _ _ h1 (by omega) (by omega)
            rw [if_pos (by omega)] at a1
            split at h2
            · cases h2
              show _ ∧ _ ∧ max (hgt x) (hgt y) + 1 + sg ≤ _
              omega
            · have a2 := ih _ _ _ _ _ _ _ _ h2 a1.2.1 (by omega)
              rw [if_neg (by omega)] at a2
              have e1 : hgt (nodeB i x y) = max (hgt x) (hgt y) + 1 := rfl
              rw [e1] at a2
              omega
      · cases h
        omega
    by_cases m16 : m = 16
    · subst m16
      rw [PE_16] at h
      rw [if_neg (by omega)]
      split at h
      · split at h
        · cases h
        split at h
        · cases h
        rcases bnd_some h with ⟨j, -, er⟩ | ⟨y, i1, s1, h1, h2⟩
        · cases er
        · have a1 := ih _ _ _ _ _ _ _ _ h1 (by omega) (by omega)
          rw [if_pos (by omega)] at a1
          split at h2
          · rcases bnd_some h2 with ⟨j, -, er⟩ | ⟨z, i2, s2, h3, h4⟩
            · cases er
            · have a2 := ih _ _ _ _ _ _ _ _ h3 a1.2.1 (by omega)
              rw [if_pos (by omega)] at a2
              split at h4
              · have a3 := ih _ _ _ _ _ _ _ _ h4 a2.2.1 (by omega)
                rw [if_neg (by omega)] at a3
                have e1 : hgt (.rem x (.sub y z)) = max (hgt x) (max (hgt y) (hgt z)) + 1 := rfl
                rw [e1] at a3
                omega
              · cases h4
          · split at h2
            · have a3 := ih _ _ _ _ _ _ _ _ h2 a1.2.1 (by omega)
              rw [if_neg (by omega)] at a3
              have e1 : hgt (.div x y) = max (hgt x) (hgt y) + 1 := rfl
              rw [e1] at a3
              omega
            · cases h2
      · cases h
        omega
    · have m17 : m = 17 := by omega
      subst m17
      rw [PE_17] at h
      rw [if_pos (by omega)]
      rcases bnd_some h with ⟨j, -, er⟩ | ⟨y, i1, s1, h1, h2⟩
      · cases er
      · have a1 := ih _ _ _ _ _ _ _ _ h1 hs (by omega)
        rw [if_pos (by omega)] at a1
        split at h2
        · rcases bnd_some h2 with ⟨j, -, er⟩ | ⟨z, i2, s2, h3, h4⟩
          · cases er
          · have a2 := ih _ _ _ _ _ _ _ _ h3 a1.2.1 (by omega)
            rw [if_pos (by omega)] at a2
            cases h4
            show _ ∧ _ ∧ max (hgt y) (hgt z) + sg ≤ _
            omega
        · cases h2
          show _ ∧ _ ∧ max (hgt y) 0 + sg ≤ _
          omega
/-- how deep S lie within one another, with E of no more than 40 levels -/
def hgS : Jvm.Term → Nat → Prop
  | .sub s r, k => hgS s k ∧ hgS r k
  | .elem _ (.sub e (.sub b c)), k => hgt e ≤ 40 ∧ ∃ j, k = j + 1 ∧ hgS b j ∧ hgS c j
  | _, _ => True
theorem PS_hgt {K : Nat → Int} : ∀ (f m i st dp sc : Nat) (q : Jvm.Term × Nat × Nat × Nat), PS K f m i st dp sc = some (.ok q) → dp ≤ 8 → hgS q.1 (8 - dp) := by
  intro f
  induction f with
  | zero => intro m i st dp sc q h; cases h
  | succ f ih =>
    intro m i st dp sc q h hd
    match m, h with
    | 0, h =>
      rw [PS_0] at h
      split at h
      · rcases bndS_some h with ⟨j, -, e⟩ | ⟨l, i1, st1, sc1, h1, h2⟩
        · cases e
        · have a1 := ih _ _ _ _ _ _ h1 hd
          cases h2
          exact a1
      · cases h
    | 1, h =>
      rw [PS_1] at h
      split at h
      · cases h
        exact trivial
      · rcases bndS_some h with ⟨j, -, e⟩ | ⟨S, i1, st1, sc1, h1, h2⟩
        · cases e
        · rcases bndS_some h2 with ⟨j, -, e⟩ | ⟨l, i2, st2, sc2, h3, h4⟩
          · cases e
          · cases h4
            exact ⟨ih _ _ _ _ _ _ h1 hd, ih _ _ _ _ _ _ h3 hd⟩
    | m + 2, h =>
      have h : PS K (f + 1) 2 i st dp sc = some (.ok q) := h
      rw [PS_2] at h
      split at h
      · cases h
      rename_i hn
      have hd8 : 8 - dp = (8 - (dp + 1)) + 1 := by omega
      have eh : ∀ j e i1 s1, PE K f 0 .null j 0 0 = some (.ok (e, i1, s1)) → hgt e ≤ 40 := fun j e i1 s1 h => by
        have := PE_hgt f 0 .null j 0 0 e i1 s1 h (by omega) (by omega)
        rw [if_pos (by omega)] at this
        omega
      have one : ∀ j e i1 s1, PE K f 0 .null j 0 0 = some (.ok (e, i1, s1)) → hgS (stm i e .null .thrown) (8 - dp) := fun j e i1 s1 h => ⟨eh j e i1 s1 h, _, hd8, trivial, trivial⟩
      split at h
      · split at h
        · split at h
          · rcases bndE_some h with ⟨j, -, e⟩ | ⟨e, i1, s1, h1, h2⟩
            · cases e
            · split at h2
              · cases h2
                exact one _ _ _ _ h1
              · cases h2
          · cases h
        · cases h
      split at h
      · split at h
        · rcases bndE_some h with ⟨j, -, e⟩ | ⟨e, i1, s1, h1, h2⟩
          · cases e
          · split at h2
            · cases h2
              exact one _ _ _ _ h1
            · cases h2
        · cases h
      · rcases bndE_some h with ⟨j, -, e⟩ | ⟨e, i1, s1, h1, h2⟩
        · cases e
        · split at h2
          · rcases bndS_some h2 with ⟨j, -, e⟩ | ⟨b, i2, st2, sc2, h3, h4⟩
            · cases e
            · have a1 := ih _ _ _ _ _ _ h3 (by omega)
              split at h4
              · rcases bndS_some h4 with ⟨j, -, e⟩ | ⟨c, i3, st3, sc3, h5, h6⟩
                · cases e
                · have a2 := ih _ _ _ _ _ _ h5 (by omega)
                  cases h6
                  exact ⟨eh _ _ _ _ h1, _, hd8, a1, a2⟩
              · cases h4
                exact ⟨eh _ _ _ _ h1, _, hd8, a1, trivial⟩
          · split at h2
            · cases h2
              exact one _ _ _ _ h1
            · cases h2
