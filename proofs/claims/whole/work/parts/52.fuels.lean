/-! The grammar never runs out of fuel: BLOCK and S, FUNCTIONS. -/
def TOQ (P : Nat → Prop) (r : QR) : Prop := r ≠ none ∧ ∀ e i st sc, r = some (.ok (e, i, st, sc)) → P i
theorem TOQ_er {P : Nat → Prop} {j : Nat} : TOQ P (erQ j) := ⟨fun h => (by cases h), fun e i s c h => (by cases h)⟩
theorem TOQ_ok {P : Nat → Prop} {e : Jvm.Term} {i s c : Nat} (h : P i) : TOQ P (okQ e i s c) := ⟨fun h => (by cases h), fun e i s c h' => (by cases h'; exact h)⟩
theorem TOQ_bnd {P R : Nat → Prop} {p : QR} {k : Jvm.Term → Nat → Nat → Nat → QR} (h : TOQ R p) (hk : ∀ e i s c, R i → TOQ P (k e i s c)) : TOQ P (bndS p k) := by
  match p, h with
  | none, h => exact absurd rfl h.1
  | some (.error j), h => exact TOQ_er
  | some (.ok (e, i, s, c)), h => exact hk e i s c (h.2 e i s c rfl)
theorem TOQ_bndE {P R : Nat → Prop} {p : PR} {k : Jvm.Term → Nat → QR} (h : TOT R p) (hk : ∀ e i, R i → TOQ P (k e i)) : TOQ P (bndE p k) := by
  match p, h with
  | none, h => exact absurd rfl h.1
  | some (.error j), h => exact TOQ_er
  | some (.ok (e, i, s)), h => exact hk e i (h.2 e i s rfl)
theorem TOQ_ite {P : Nat → Prop} {c : Prop} [Decidable c] {a b : QR} (h1 : c → TOQ P a) (h2 : ¬ c → TOQ P b) : TOQ P (if c then a else b) := by
  split
  · exact h1 (by assumption)
  · exact h2 (by assumption)
theorem TOQ.imp {P R : Nat → Prop} {r : QR} (h : TOQ P r) (hi : ∀ i, P i → R i) : TOQ R r := ⟨h.1, fun e i s c hr => hi i (h.2 e i s c hr)⟩
theorem PE_0tot {K : Nat → Int} {la : Nat} (hla : K la = 0) {f i : Nat} (hi : i ≤ la) (hf : 20 * (la - i) + 10 ≤ f) : TOT (fun i' => i' ≤ la ∧ i < i') (PE K f 0 .null i 0 0) := (PE_tot hla f 0 .null i 0 0 (by omega) hi hf).imp (fun i' h => ⟨h.1, h.2.2 (by omega)⟩)
theorem PS_tot {K : Nat → Int} {la : Nat} (hla : K la = 0) : ∀ (f m i st dp sc : Nat), m ≤ 2 → i ≤ la → 20 * (la - i) + (m + 1) + (if m = 1 then 2 else 0) ≤ f → TOQ (fun i' => i' ≤ la ∧ i < i') (PS K f m i st dp sc) := by
  intro f
  induction f with
  | zero => intro m i st dp sc _ _ hf; omega
  | succ f ih =>
    intro m i st dp sc hm hi hf
    match m, hm, hf with
    | 0, _, hf =>
      rw [if_neg (by decide)] at hf
      rw [PS_0]
      refine TOQ_ite (fun hk => ?_) (fun _ => TOQ_er)
      have hl := lt_la hla hi (by omega)
      exact TOQ_bnd (ih 1 (i + 1) st dp sc (by omega) hl (by rw [if_pos rfl]; omega)) (fun e i1 s c h => TOQ_ok ⟨h.1, by omega⟩)
    | 1, _, hf =>
      rw [if_pos rfl] at hf
      rw [PS_1]
      refine TOQ_ite (fun hk => ?_) (fun _ => ?_)
      · have hl := lt_la hla hi (by omega)
        exact TOQ_ok ⟨hl, by omega⟩
      · refine TOQ_bnd (ih 2 i st dp sc (by omega) hi (by rw [if_neg (by decide)]; omega)) (fun e i1 s c h => ?_)
        exact TOQ_bnd (ih 1 i1 s dp c (by omega) h.1 (by rw [if_pos rfl]; omega)) (fun e2 i2 s2 c2 h2 => TOQ_ok ⟨h2.1, by omega⟩)
    | 2, _, hf =>
      rw [if_neg (by decide)] at hf
      rw [PS_2]
      refine TOQ_ite (fun _ => TOQ_er) (fun hn => ?_)
      have hs0 : ¬ skd (K i) = 0 := fun h => hn (Or.inl h)
      have hkc := skd_c hs0
      have hl := lt_la hla hi (by omega)
      refine TOQ_ite (fun hk => TOQ_ite (fun h2 => ?_) (fun _ => TOQ_er)) (fun _ => TOQ_ite (fun hk => TOQ_ite (fun h2 => ?_) (fun _ => TOQ_er)) (fun _ => ?_))
      · have hl2 := lt_la (i := i + 1) hla hl (by omega)
        refine TOQ_ite (fun h61 => ?_) (fun _ => TOQ_er)
        have hl3 := lt_la (i := i + 2) hla hl2 (by omega)
        refine TOQ_bndE (PE_0tot hla (i := i + 3) hl3 (by omega)) (fun e i1 h => TOQ_ite (fun h59 => ?_) (fun _ => TOQ_er))
        have hl4 := lt_la hla h.1 (by omega)
        exact TOQ_ok ⟨hl4, by omega⟩
      · have hl2 := lt_la (i := i + 1) hla hl (by omega)
        refine TOQ_bndE (PE_0tot hla (i := i + 2) hl2 (by omega)) (fun e i1 h => TOQ_ite (fun h59 => ?_) (fun _ => TOQ_er))
        have hl4 := lt_la hla h.1 (by omega)
        exact TOQ_ok ⟨hl4, by omega⟩
      · refine TOQ_bndE (PE_0tot hla (i := i + 1) hl (by omega)) (fun e i1 h => TOQ_ite (fun _ => ?_) (fun _ => TOQ_ite (fun h59 => ?_) (fun _ => TOQ_er)))
        · refine TOQ_bnd (ih 0 i1 (st + 1) (dp + 1) sc (by omega) h.1 (by rw [if_neg (by decide)]; omega)) (fun e2 i2 s2 c2 h2 => TOQ_ite (fun h13 => ?_) (fun _ => TOQ_ok ⟨h2.1, by omega⟩))
          have hl4 := lt_la hla h2.1 (by omega)
          exact TOQ_bnd (ih 0 (i2 + 1) s2 (dp + 1) sc (by omega) hl4 (by rw [if_neg (by decide)]; omega)) (fun e3 i3 s3 c3 h3 => TOQ_ok ⟨h3.1, by omega⟩)
        · have hl4 := lt_la hla h.1 (by omega)
          exact TOQ_ok ⟨hl4, by omega⟩
theorem PPar_tot {K : Nat → Int} {la : Nat} (hla : K la = 0) : ∀ (f j np : Nat), np ≤ 6 → j ≤ la → 7 ≤ f + np → PPar K f j np ≠ none ∧ ∀ q, PPar K f j np = some (.ok q) → q.2 ≤ la ∧ j < q.2 := by
  intro f
  induction f with
  | zero => intro j np h1 _ h; omega
  | succ f ih =>
    intro j np h6 hj hf
    have e : PPar K (f + 1) j np = (if K j = 2 ∧ np < 6 then (if K (j + 1) = 58 then (if K (j + 2) = 17 ∨ K (j + 2) = 24 then (if K (j + 3) = 44 then (match PPar K f (j + 4) (np + 1) with
      | none => none
      | some (.error e) => some (.error e)
      | some (.ok q) => some (.ok ((j, tyk (K (j + 2))) :: q.1, q.2))) else some (.ok ([(j, tyk (K (j + 2)))], j + 3))) else some (.error (j + 2))) else some (.error (j + 1))) else some (.error j)) := rfl
    rw [e]
    by_cases k1 : K j = 2 ∧ np < 6
    · rw [if_pos k1]
      have l1 := lt_la hla hj (by omega)
      by_cases k2 : K (j + 1) = 58
      · rw [if_pos k2]
        have l2 := lt_la (i := j + 1) hla l1 (by omega)
        by_cases k3 : K (j + 2) = 17 ∨ K (j + 2) = 24
        · rw [if_pos k3]
          have l3 := lt_la (i := j + 2) hla l2 (by omega)
          by_cases k4 : K (j + 3) = 44
          · rw [if_pos k4]
            have l4 := lt_la (i := j + 3) hla l3 (by omega)
            have h := ih (j + 4) (np + 1) (by omega) l4 (by omega)
            cases hr : PPar K f (j + 4) (np + 1) with
            | none => exact absurd hr h.1
            | some r =>
              cases r with
              | error e => exact ⟨fun h => (by cases h), fun q h => (by cases h)⟩
              | ok w =>
                have h2 := h.2 w hr
                refine ⟨fun h => (by cases h), fun q hq => ?_⟩
                cases hq
                exact ⟨h2.1, by show j < w.2; omega⟩
          · rw [if_neg k4]
            refine ⟨fun h => (by cases h), fun q hq => ?_⟩
            cases hq
            exact ⟨l3, by show j < j + 3; omega⟩
        · rw [if_neg k3]
          exact ⟨fun h => (by cases h), fun q h => (by cases h)⟩
      · rw [if_neg k2]
        exact ⟨fun h => (by cases h), fun q h => (by cases h)⟩
    · rw [if_neg k1]
      exact ⟨fun h => (by cases h), fun q h => (by cases h)⟩
