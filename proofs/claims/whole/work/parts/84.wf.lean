/-! What trees the grammar makes. -/
def wfE (K : Nat → Int) : Bool → Jvm.Term → Prop
  | true, .null => True
  | true, .sub e r => wfE K false e ∧ wfE K true r
  | true, _ => False
  | false, .arg i => K i = 3 ∨ K i = 4 ∨ K i = 2
  | false, .elem (.arg _) e => wfE K false e
  | false, .mul (.arg i) e => (K i = 45 ∨ K i = 33) ∧ wfE K false e
  | false, .add (.arg i) (.sub l r) => lvl (K i) < 5 ∧ wfE K false l ∧ wfE K false r
  | false, .div s e => wfE K false s ∧ wfE K false e
  | false, .rem s (.sub a b) => wfE K false s ∧ wfE K false a ∧ wfE K false b
  | false, .op2 .iand (.arg i) e => (K i = 18 ∨ K i = 11 ∨ K i = 23) ∧ wfE K false e
  | false, .op2 .ior (.arg _) (.sub a b) => wfE K false a ∧ wfE K false b
  | false, .op2 .ixor (.arg i) as => K i = 2 ∧ wfE K true as
  | _, _ => False
theorem PE_wf {K : Nat → Int} : ∀ (f m : Nat) (x : Jvm.Term) (i sg nb : Nat) (e : Jvm.Term) (i' sg' : Nat), PE K f m x i sg nb = some (.ok (e, i', sg')) → (m < 8 ∨ (10 ≤ m ∧ m < 15) ∨ m = 16 ∨ m = 17) → (10 ≤ m → m ≤ 16 → wfE K false x) → wfE K (decide (m = 17)) e := by
  intro f
  induction f with
  | zero => intro m x i sg nb e i' sg' h; cases h
  | succ f ih =>
    intro m x i sg nb e i' sg' h hm hx
    by_cases m5 : m < 5
    · rw [PE_row m5] at h
      rcases bnd_some h with ⟨j, -, er⟩ | ⟨y, i1, s1, h1, h2⟩
      · cases er
      · have a1 := ih (m + 1) _ _ _ _ _ _ _ h1 (by omega) (fun _ _ => by omega)
        have a2 := ih (m + 10) _ _ _ _ _ _ _ h2 (by omega)
        rw [decide_eq_false (by omega)] at a1 a2 ⊢
        exact a2 (fun _ _ => a1)
    by_cases m5 : m = 5
    · subst m5
      rw [PE_5] at h
      show wfE K false e
      split at h
      · rename_i hk
        split at h
        · cases h
        · rcases bnd_some h with ⟨j, -, er⟩ | ⟨y, i1, s1, h1, h2⟩
          · cases er
          · have a1 : wfE K false y := ih 5 _ _ _ _ _ _ _ h1 (by omega) (fun _ _ => by omega)
            cases h2
            exact ⟨hk, a1⟩
      · exact ih 6 _ _ _ _ _ _ _ h (by omega) (fun _ _ => by omega)
    by_cases m6 : m = 6
    · subst m6
      rw [PE_6] at h
      show wfE K false e
      rcases bnd_some h with ⟨j, -, er⟩ | ⟨y, i1, s1, h1, h2⟩
      · cases er
      · have a1 : wfE K false y := ih 7 _ _ _ _ _ _ _ h1 (by omega) (fun _ _ => by omega)
        exact ih 16 _ _ _ _ _ _ _ h2 (by omega) (fun _ _ => a1)
    by_cases m7 : m = 7
    · subst m7
      rw [PE_7] at h
      show wfE K false e
      split at h
      · rename_i hk
        cases h
        show K i = 3 ∨ K i = 4 ∨ K i = 2
        omega
      split at h
      · rename_i hk
        split at h
        · split at h
          · cases h
          split at h
          · cases h
          split at h
          · cases h
            exact ⟨hk, trivial⟩
          · rcases bnd_some h with ⟨j, -, er⟩ | ⟨y, i1, s1, h1, h2⟩
            · cases er
            · have a1 : wfE K true y := ih 17 _ _ _ _ _ _ _ h1 (by omega) (fun _ _ => by omega)
              split at h2
              · cases h2
                exact ⟨hk, a1⟩
              · cases h2
        · cases h
          exact Or.inr (Or.inr hk)
      split at h
      · split at h
        · cases h
        · rcases bnd_some h with ⟨j, -, er⟩ | ⟨y, i1, s1, h1, h2⟩
          · cases er
          · have a1 : wfE K false y := ih 0 _ _ _ _ _ _ _ h1 (by omega) (fun _ _ => by omega)
            split at h2
            · cases h2
              exact a1
            · cases h2
      split at h
      · rename_i hk
        split at h
        · cases h
        split at h
        · rcases bnd_some h with ⟨j, -, er⟩ | ⟨y, i1, s1, h1, h2⟩
          · cases er
          · have a1 : wfE K false y := ih 0 _ _ _ _ _ _ _ h1 (by omega) (fun _ _ => by omega)
            split at h2
            · cases h2
              exact ⟨hk, a1⟩
            · cases h2
        · cases h
      split at h
      · split at h
        · cases h
        split at h
        · rcases bnd_some h with ⟨j, -, er⟩ | ⟨y, i1, s1, h1, h2⟩
          · cases er
          · have a1 : wfE K false y := ih 0 _ _ _ _ _ _ _ h1 (by omega) (fun _ _ => by omega)
            split at h2
            · rcases bnd_some h2 with ⟨j, -, er⟩ | ⟨z, i2, s2, h3, h4⟩
              · cases er
              · have a2 : wfE K false z := ih 0 _ _ _ _ _ _ _ h3 (by omega) (fun _ _ => by omega)
                split at h4
                · cases h4
                  exact ⟨a1, a2⟩
                · cases h4
            · cases h2
        · cases h
      · cases h
    by_cases m15 : 10 ≤ m ∧ m < 15
    · obtain ⟨l, rfl⟩ : ∃ l, m = l + 10 := ⟨m - 10, by omega⟩
      rw [PE_lp (by omega)] at h
      have hx := hx (by omega) (by omega)
      rw [decide_eq_false (by omega)]
      split at h
      · rename_i hlv
        split at h
        · cases h
        · rcases bnd_some h with ⟨j, -, er⟩ | ⟨y, i1, s1, h1, h2⟩
          · cases er
          · have a1 := ih (l + 1) _ _ _ _ _ _ _ h1 (by omega) (fun _ _ => by omega)
            rw [decide_eq_false (by omega)] at a1
            have a3 : wfE K false (nodeB i x y) := ⟨by omega, hx, a1⟩
            split at h2
            · cases h2
              exact a3
            · have a2 := ih (l + 10) _ _ _ _ _ _ _ h2 (by omega) (fun _ _ => a3)
              rw [decide_eq_false (by omega)] at a2
              exact a2
      · cases h
        exact hx
    by_cases m16 : m = 16
    · subst m16
      rw [PE_16] at h
      have hx := hx (by omega) (by omega)
      show wfE K false e
      split at h
      · split at h
        · cases h
        split at h
        · cases h
        rcases bnd_some h with ⟨j, -, er⟩ | ⟨y, i1, s1, h1, h2⟩
        · cases er
        · have a1 : wfE K false y := ih 0 _ _ _ _ _ _ _ h1 (by omega) (fun _ _ => by omega)
          split at h2
          · rcases bnd_some h2 with ⟨j, -, er⟩ | ⟨z, i2, s2, h3, h4⟩
            · cases er
            · have a2 : wfE K false z := ih 0 _ _ _ _ _ _ _ h3 (by omega) (fun _ _ => by omega)
              split at h4
              · exact ih 16 _ _ _ _ _ _ _ h4 (by omega) (fun _ _ => ⟨hx, a1, a2⟩)
              · cases h4
          · split at h2
            · exact ih 16 _ _ _ _ _ _ _ h2 (by omega) (fun _ _ => ⟨hx, a1⟩)
            · cases h2
      · cases h
        exact hx
    · have m17 : m = 17 := by omega
      subst m17
      rw [PE_17] at h
      show wfE K true e
      rcases bnd_some h with ⟨j, -, er⟩ | ⟨y, i1, s1, h1, h2⟩
      · cases er
      · have a1 : wfE K false y := ih 0 _ _ _ _ _ _ _ h1 (by omega) (fun _ _ => by omega)
        split at h2
        · rcases bnd_some h2 with ⟨j, -, er⟩ | ⟨z, i2, s2, h3, h4⟩
          · cases er
          · have a2 : wfE K true z := ih 17 _ _ _ _ _ _ _ h3 (by omega) (fun _ _ => by omega)
            cases h4
            exact ⟨a1, a2⟩
        · cases h2
          exact ⟨a1, trivial⟩
/-- a BLOCK's S -/
def wfS (K : Nat → Int) : Jvm.Term → Prop
  | .null => True
  | .thrown => True
  | .sub (.elem (.arg i) (.sub e (.sub b c))) r => skd (K i) ≠ 0 ∧ wfE K false e ∧ (K i = 19 → K (i + 1) = 2) ∧ (¬ (K i = 16 ∨ K i = 25) → b = .null) ∧ (¬ K i = 16 → c = .thrown) ∧ b ≠ .thrown ∧ wfS K b ∧ wfS K c ∧ wfS K r
  | _ => False
theorem PS_wf {K : Nat → Int} : ∀ (f m i st dp sc : Nat) (q : Jvm.Term × Nat × Nat × Nat), PS K f m i st dp sc = some (.ok q) → wfS K (if m < 2 then q.1 else .sub q.1 .null) ∧ (m < 2 → q.1 ≠ .thrown) := by
  intro f
  induction f with
  | zero => intro m i st dp sc q h; cases h
  | succ f ih =>
    intro m i st dp sc q h
    match m, h with
    | 0, h =>
      rw [PS_0] at h
      split at h
      · rcases bndS_some h with ⟨j, -, e⟩ | ⟨l, i1, st1, sc1, h1, h2⟩
        · cases e
        · have a1 := ih 1 _ _ _ _ _ h1
          cases h2
          exact ⟨a1.1, fun _ => a1.2 (by omega)⟩
      · cases h
    | 1, h =>
      rw [PS_1] at h
      split at h
      · cases h
        exact ⟨trivial, fun _ h => by cases h⟩
      · rcases bndS_some h with ⟨j, -, e⟩ | ⟨S, i1, st1, sc1, h1, h2⟩
        · cases e
        · rcases bndS_some h2 with ⟨j, -, e⟩ | ⟨l, i2, st2, sc2, h3, h4⟩
          · cases e
          · have a1 : wfS K (.sub S .null) := (ih 2 _ _ _ _ _ h1).1
            have a2 : wfS K l := (ih 1 _ _ _ _ _ h3).1
            cases h4
            refine ⟨?_, fun _ h => by cases h⟩
            show wfS K (.sub S l)
            unfold wfS at a1 ⊢
            split at a1
            · rename_i h; cases h
            · rename_i h; cases h
            · rename_i h
              cases h
              obtain ⟨b1, b2, b3, b4, b5, b6, b7, b8, b9⟩ := a1
              exact ⟨b1, b2, b3, b4, b5, b6, b7, b8, a2⟩
            · exact a1.elim
    | m + 2, h =>
      have h : PS K (f + 1) 2 i st dp sc = some (.ok q) := h
      refine ⟨?_, fun h => by omega⟩
      rw [if_neg (by omega)]
      rw [PS_2] at h
      split at h
      · cases h
      rename_i hn
      have hsk : skd (K i) ≠ 0 := fun e => hn (Or.inl e)
      have eh : ∀ j e i1 s1, PE K f 0 .null j 0 0 = some (.ok (e, i1, s1)) → wfE K false e := fun j e i1 s1 h => PE_wf f 0 .null j 0 0 e i1 s1 h (by omega) (fun _ _ => by omega)
      split at h
      · rename_i k19
        split at h
        · rename_i k2
          split at h
          · rcases bndE_some h with ⟨j, -, e⟩ | ⟨e, i1, s1, h1, h2⟩
            · cases e
            · split at h2
              · cases h2
                exact ⟨hsk, eh _ _ _ _ h1, fun _ => k2.1, fun _ => rfl, fun _ => rfl, (fun h => by cases h), trivial, trivial, trivial⟩
              · cases h2
          · cases h
        · cases h
      split at h
      · rename_i k19 k2
        split at h
        · rcases bndE_some h with ⟨j, -, e⟩ | ⟨e, i1, s1, h1, h2⟩
          · cases e
          · split at h2
            · cases h2
              exact ⟨hsk, eh _ _ _ _ h1, fun h => absurd h k19, fun _ => rfl, fun _ => rfl, (fun h => by cases h), trivial, trivial, trivial⟩
            · cases h2
        · cases h
      · rename_i k19 k2
        rcases bndE_some h with ⟨j, -, e⟩ | ⟨e, i1, s1, h1, h2⟩
        · cases e
        · split at h2
          · rename_i kiw
            rcases bndS_some h2 with ⟨j, -, e⟩ | ⟨b, i2, st2, sc2, h3, h4⟩
            · cases e
            · have a1 : wfS K b ∧ _ := ih 0 _ _ _ _ _ h3
              split at h4
              · rename_i k16
                rcases bndS_some h4 with ⟨j, -, e⟩ | ⟨c, i3, st3, sc3, h5, h6⟩
                · cases e
                · have a2 : wfS K c ∧ _ := ih 0 _ _ _ _ _ h5
                  cases h6
                  exact ⟨hsk, eh _ _ _ _ h1, fun h => absurd h k19, fun h => absurd kiw h, fun h => absurd k16.1 h, a1.2 (by omega), a1.1, a2.1, trivial⟩
              · cases h4
                exact ⟨hsk, eh _ _ _ _ h1, fun h => absurd h k19, fun h => absurd kiw h, fun _ => rfl, a1.2 (by omega), a1.1, trivial, trivial⟩
          · rename_i kiw
            split at h2
            · cases h2
              exact ⟨hsk, eh _ _ _ _ h1, fun h => absurd h k19, fun _ => rfl, fun _ => rfl, (fun h => by cases h), trivial, trivial, trivial⟩
            · cases h2
