/-! The grammar never runs out of fuel: each way through it takes a word within ten modes; word la (its kind is 0) is never taken. -/
def TOT (P : Nat → Prop) (r : PR) : Prop := r ≠ none ∧ ∀ e i s, r = some (.ok (e, i, s)) → P i
theorem TOT_er {P : Nat → Prop} {j : Nat} : TOT P (erP j) := ⟨fun h => (by cases h), fun e i s h => (by cases h)⟩
theorem TOT_ok {P : Nat → Prop} {e : Jvm.Term} {i s : Nat} (h : P i) : TOT P (okP e i s) := ⟨fun h => (by cases h), fun e i s h' => (by cases h'; exact h)⟩
theorem TOT_bnd {P R : Nat → Prop} {p : PR} {k : Jvm.Term → Nat → Nat → PR} (h : TOT R p) (hk : ∀ e i s, R i → TOT P (k e i s)) : TOT P (bnd p k) := by
  match p, h with
  | none, h => exact absurd rfl h.1
  | some (.error j), h => exact TOT_er
  | some (.ok (e, i, s)), h => exact hk e i s (h.2 e i s rfl)
theorem TOT_ite {P : Nat → Prop} {c : Prop} [Decidable c] {a b : PR} (h1 : c → TOT P a) (h2 : ¬ c → TOT P b) : TOT P (if c then a else b) := by
  split
  · exact h1 (by assumption)
  · exact h2 (by assumption)
theorem TOT.imp {P R : Nat → Prop} {r : PR} (h : TOT P r) (hi : ∀ i, P i → R i) : TOT R r := ⟨h.1, fun e i s hr => hi i (h.2 e i s hr)⟩
/-- how much a mode needs beyond the words that are left -/
def rkm (m : Nat) : Nat := if m < 8 then 10 - m else if m = 17 then 11 else 1
theorem lt_la {K : Nat → Int} {la i : Nat} (hla : K la = 0) (hi : i ≤ la) (h : ¬ K i = 0) : i < la := by
  rcases Nat.lt_or_eq_of_le hi with h1 | h1
  · exact h1
  · rw [h1] at h; exact absurd hla h
theorem PE_tot {K : Nat → Int} {la : Nat} (hla : K la = 0) : ∀ (f m : Nat) (x : Jvm.Term) (i sg nb : Nat), (m < 8 ∨ (10 ≤ m ∧ m < 15) ∨ m = 16 ∨ m = 17) → i ≤ la → 20 * (la - i) + rkm m ≤ f → TOT (fun i' => i' ≤ la ∧ i ≤ i' ∧ ((m < 8 ∨ m = 17) → i < i')) (PE K f m x i sg nb) := by
  intro f
  induction f with
  | zero =>
    intro m x i sg nb hm hi hf
    exfalso
    unfold rkm at hf
    split at hf
    · omega
    · split at hf <;> omega
  | succ f ih =>
    intro m x i sg nb hm hi hf
    by_cases m5 : m < 5
    · rw [PE_row m5]
      have r1 : rkm m = 10 - m := by unfold rkm; rw [if_pos (by omega)]
      have r2 : rkm (m + 1) = 10 - (m + 1) := by unfold rkm; rw [if_pos (by omega)]
      have r3 : rkm (m + 10) = 1 := by unfold rkm; rw [if_neg (by omega), if_neg (by omega)]
      refine TOT_bnd (ih (m + 1) x i sg nb (by omega) hi (by omega)) (fun e i1 s1 h1 => ?_)
      have h3 := h1.2.2 (by omega)
      exact (ih (m + 10) e i1 s1 nb (by omega) h1.1 (by omega)).imp (fun i' h => ⟨h.1, by omega, fun _ => by omega⟩)
    · by_cases e5 : m = 5
      · subst e5
        have r1 : rkm 5 = 5 := rfl
        have r2 : rkm 6 = 4 := rfl
        rw [PE_5]
        refine TOT_ite (fun hk => TOT_ite (fun _ => TOT_er) (fun _ => ?_)) (fun _ => ?_)
        · have hl := lt_la hla hi (by omega)
          exact TOT_bnd (ih 5 x (i + 1) (sg + 1) nb (by omega) hl (by omega)) (fun e i1 s1 h => TOT_ok ⟨h.1, by omega, fun _ => by omega⟩)
        · exact (ih 6 x i sg nb (by omega) hi (by omega)).imp (fun i' h => ⟨h.1, h.2.1, fun _ => h.2.2 (by omega)⟩)
      · by_cases e6 : m = 6
        · subst e6
          have r1 : rkm 6 = 4 := rfl
          have r2 : rkm 7 = 3 := rfl
          have r3 : rkm 16 = 1 := rfl
          rw [PE_6]
          refine TOT_bnd (ih 7 x i sg nb (by omega) hi (by omega)) (fun e i1 s1 h1 => ?_)
          have h3 := h1.2.2 (by omega)
          exact (ih 16 e i1 s1 nb (by omega) h1.1 (by omega)).imp (fun i' h => ⟨h.1, by omega, fun _ => by omega⟩)
        · by_cases e7 : m = 7
          · subst e7
            have r1 : rkm 7 = 3 := rfl
            have r0 : rkm 0 = 10 := rfl
            have r17 : rkm 17 = 11 := rfl
            rw [PE_7]
            refine TOT_ite (fun hk => ?_) (fun _ => TOT_ite (fun hk => ?_) (fun _ => TOT_ite (fun hk => ?_) (fun _ => TOT_ite (fun hk => ?_) (fun _ => TOT_ite (fun hk => ?_) (fun _ => TOT_er)))))
            · have hl := lt_la hla hi (by omega)
              exact TOT_ok ⟨hl, by omega, fun _ => by omega⟩
            · have hl := lt_la hla hi (by omega)
              refine TOT_ite (fun h40 => ?_) (fun _ => TOT_ok ⟨hl, by omega, fun _ => by omega⟩)
              have hl2 := lt_la (i := i + 1) hla hl (by omega)
              refine TOT_ite (fun _ => TOT_er) (fun _ => TOT_ite (fun _ => TOT_er) (fun _ => TOT_ite (fun h41 => ?_) (fun _ => ?_)))
              · have hl3 := lt_la (i := i + 2) hla hl2 (by omega)
                exact TOT_ok ⟨hl3, by omega, fun _ => by omega⟩
              · refine TOT_bnd (ih 17 x (i + 2) (sg + 1) (nb + 1) (by omega) hl2 (by omega)) (fun e i1 s1 h => TOT_ite (fun h41 => ?_) (fun _ => TOT_er))
                have hl3 := lt_la hla h.1 (by omega)
                exact TOT_ok ⟨hl3, by omega, fun _ => by omega⟩
            · have hl := lt_la hla hi (by omega)
              refine TOT_ite (fun _ => TOT_er) (fun _ => TOT_bnd (ih 0 x (i + 1) sg (nb + 1) (by omega) hl (by omega)) (fun e i1 s1 h => TOT_ite (fun h41 => ?_) (fun _ => TOT_er)))
              have hl3 := lt_la hla h.1 (by omega)
              exact TOT_ok ⟨hl3, by omega, fun _ => by omega⟩
            · have hl := lt_la hla hi (by omega)
              refine TOT_ite (fun _ => TOT_er) (fun _ => TOT_ite (fun h40 => ?_) (fun _ => TOT_er))
              have hl2 := lt_la (i := i + 1) hla hl (by omega)
              refine TOT_bnd (ih 0 x (i + 2) (sg + 1) (nb + 1) (by omega) hl2 (by omega)) (fun e i1 s1 h => TOT_ite (fun h41 => ?_) (fun _ => TOT_er))
              have hl3 := lt_la hla h.1 (by omega)
              exact TOT_ok ⟨hl3, by omega, fun _ => by omega⟩
            · have hl := lt_la hla hi (by omega)
              refine TOT_ite (fun _ => TOT_er) (fun _ => TOT_ite (fun h40 => ?_) (fun _ => TOT_er))
              have hl2 := lt_la (i := i + 1) hla hl (by omega)
              refine TOT_bnd (ih 0 x (i + 2) (sg + 1) (nb + 1) (by omega) hl2 (by omega)) (fun e i1 s1 h => TOT_ite (fun h44 => ?_) (fun _ => TOT_er))
              have hl3 := lt_la hla h.1 (by omega)
              refine TOT_bnd (ih 0 x (i1 + 1) s1 (nb + 1) (by omega) hl3 (by omega)) (fun e2 i2 s2 h2 => TOT_ite (fun h41 => ?_) (fun _ => TOT_er))
              have hl4 := lt_la hla h2.1 (by omega)
              exact TOT_ok ⟨hl4, by omega, fun _ => by omega⟩
          · by_cases e16 : m = 16
            · subst e16
              have r1 : rkm 16 = 1 := rfl
              have r0 : rkm 0 = 10 := rfl
              rw [PE_16]
              refine TOT_ite (fun hk => TOT_ite (fun _ => TOT_er) (fun _ => TOT_ite (fun _ => TOT_er) (fun _ => ?_))) (fun _ => TOT_ok ⟨hi, Nat.le_refl _, fun h => by omega⟩)
              have hl := lt_la hla hi (by omega)
              refine TOT_bnd (ih 0 x (i + 1) (sg + 1) (nb + 1) (by omega) hl (by omega)) (fun e i1 s1 h => TOT_ite (fun h58 => ?_) (fun _ => TOT_ite (fun h93 => ?_) (fun _ => TOT_er)))
              · have hl3 := lt_la hla h.1 (by omega)
                refine TOT_bnd (ih 0 x (i1 + 1) s1 (nb + 1) (by omega) hl3 (by omega)) (fun e2 i2 s2 h2 => TOT_ite (fun h93 => ?_) (fun _ => TOT_er))
                have hl4 := lt_la hla h2.1 (by omega)
                exact (ih 16 _ (i2 + 1) s2 nb (by omega) hl4 (by omega)).imp (fun i' h => ⟨h.1, by omega, fun h9 => by omega⟩)
              · have hl3 := lt_la hla h.1 (by omega)
                exact (ih 16 _ (i1 + 1) s1 nb (by omega) hl3 (by omega)).imp (fun i' h => ⟨h.1, by omega, fun h9 => by omega⟩)
            · by_cases e17 : m = 17
              · subst e17
                have r1 : rkm 17 = 11 := rfl
                have r0 : rkm 0 = 10 := rfl
                rw [PE_17]
                refine TOT_bnd (ih 0 x i sg nb (by omega) hi (by omega)) (fun e i1 s1 h => TOT_ite (fun h44 => ?_) (fun _ => TOT_ok ⟨h.1, h.2.1, fun _ => h.2.2 (by omega)⟩))
                have hl3 := lt_la hla h.1 (by omega)
                exact TOT_bnd (ih 17 x (i1 + 1) s1 nb (by omega) hl3 (by omega)) (fun e2 i2 s2 h2 => TOT_ok ⟨h2.1, by omega, fun _ => by omega⟩)
              · obtain ⟨l, rfl⟩ : ∃ l, m = l + 10 := ⟨m - 10, by omega⟩
                have hl5 : l < 5 := by omega
                have r1 : rkm (l + 10) = 1 := by unfold rkm; rw [if_neg (by omega), if_neg (by omega)]
                have r2 : rkm (l + 1) = 10 - (l + 1) := by unfold rkm; rw [if_pos (by omega)]
                rw [PE_lp hl5]
                refine TOT_ite (fun hk => TOT_ite (fun _ => TOT_er) (fun _ => ?_)) (fun _ => TOT_ok ⟨hi, Nat.le_refl _, fun h => by omega⟩)
                have hk0 := lvl_k (k := K i) (by omega)
                have hl := lt_la hla hi hk0.1
                refine TOT_bnd (ih (l + 1) x (i + 1) (sg + 1) nb (by omega) hl (by omega)) (fun e i1 s1 h => TOT_ite (fun _ => TOT_ok ⟨h.1, by omega, fun h9 => by omega⟩) (fun _ => ?_))
                exact (ih (l + 10) _ i1 s1 nb (by omega) h.1 (by omega)).imp (fun i' h => ⟨h.1, by omega, fun h9 => by omega⟩)
