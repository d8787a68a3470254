/-! One instruction of the small machine is one (or one call) of the JVM's. Printed by wip/whole/gen/gensound.py. -/
theorem cvR_or {E : EE} (hE : E.2.2 = .null ∨ ∃ t, E.2.2 = .ref t) (ad : Nat → Nat) (a : Int) : cvR E ad a = .null ∨ ∃ t, cvR E ad a = .ref t := by
  unfold cvR
  by_cases h : 0 ≤ a
  · rw [if_pos h]; exact Or.inr ⟨_, rfl⟩
  · rw [if_neg h]
    by_cases h1 : a = -1
    · rw [if_pos h1]; exact Or.inl rfl
    · rw [if_neg h1]
      cases strOf nS a with
      | some j => exact Or.inr ⟨_, rfl⟩
      | none =>
        cases bytOf nS a with
        | some j => exact Or.inr ⟨_, rfl⟩
        | none => exact hE
theorem cvR_neg {E : EE} (hE : E.2.2 = .null ∨ ∃ t, E.2.2 = .ref t) {ad : Nat → Nat} {a : Int} (h : a ≠ -1) (hs : a < 0 → (strOf nS a).isSome = true ∨ (bytOf nS a).isSome = true) : ∃ t, cvR E ad a = .ref t := by
  unfold cvR
  by_cases h0 : 0 ≤ a
  · rw [if_pos h0]; exact ⟨_, rfl⟩
  · rw [if_neg h0, if_neg h]
    cases h1 : strOf nS a with
    | some j => exact ⟨_, rfl⟩
    | none =>
      cases h2 : bytOf nS a with
      | some j => exact ⟨_, rfl⟩
      | none =>
        rcases hs (by omega) with q | q
        · rw [h1] at q; cases q
        · rw [h2] at q; cases q
theorem cv_cat {E : EE} (hE : E.2.2 = .null ∨ ∃ t, E.2.2 = .ref t) {ad : Nat → Nat} {q : AV} (h : q.1 ≠ 1) : (cv E ad q).category = 1 := by
  obtain ⟨t, a⟩ := q
  match t, h with
  | 0, _ => rfl
  | 1, h => exact absurd rfl h
  | 2, _ =>
    show (cvR E ad a).category = 1
    rcases cvR_or hE ad a with q | ⟨z, q⟩ <;> rw [q] <;> rfl
  | _ + 3, _ => rfl
theorem cv_cat2 {E : EE} {ad : Nat → Nat} {q : AV} (h : q.1 = 1) : (cv E ad q).category = 2 := by
  obtain ⟨t, a⟩ := q
  have h : t = 1 := h
  subst h
  rfl
/-- the locals as the kit's rows want them -/
def prs (E : EE) (ad : Nat → Nat) (L : List AV) : List (Nat × Value) := (List.range L.length).filterMap (fun i => match L[i]? with
  | some q => if q.1 = 3 then none else some (i, cv E ad q)
  | none => none)
theorem prs_mem {E : EE} {ad : Nat → Nat} {L : List AV} {z : Nat × Value} : z ∈ prs E ad L ↔ ∃ q, L[z.1]? = some q ∧ q.1 ≠ 3 ∧ z.2 = cv E ad q := by
  unfold prs
  rw [List.mem_filterMap]
  constructor
  · rintro ⟨i, -, h⟩
    cases hq : L[i]? with
    | none => rw [hq] at h; cases h
    | some q =>
      rw [hq] at h
      dsimp only at h
      split at h
      · cases h
      · cases h
        exact ⟨q, hq, by assumption, rfl⟩
  · rintro ⟨q, hq, h3, hz⟩
    refine ⟨z.1, List.mem_range.mpr (List.getElem?_eq_some_iff.mp hq).1, ?_⟩
    rw [hq]
    dsimp only
    rw [if_neg h3, ← hz]
theorem LR.has {E : EE} {ad : Nat → Nat} {nL : Nat} {ls : Array Slot} {L : List AV} (h : LR E ad nL ls L) : lv_has ls nL (prs E ad L) := by
  refine ⟨h.1, h.2.2.1, fun z hz => ?_⟩
  obtain ⟨q, h1, h2, h3⟩ := prs_mem.mp hz
  rw [h3]
  exact h.2.2.2 _ _ h1 h2
theorem inv1_len (L : List AV) (k : Nat) : (inv1 L k).length = L.length := by
  unfold inv1
  split
  · rfl
  · split
    · rename_i q _
      cases Nat.beq q.1 1 with
      | true => exact List.length_set
      | false => rfl
    · rfl
theorem inv1_at {L : List AV} {k j : Nat} {q : AV} (h : (inv1 L k)[j]? = some q) (h3 : q.1 ≠ 3) : L[j]? = some q ∧ (j + 1 = k → q.1 ≠ 1) := by
  unfold inv1 at h
  split at h
  · exact ⟨h, fun e => by omega⟩
  · rename_i k0
    split at h
    · rename_i q0 hq0
      cases hb : Nat.beq q0.1 1 with
      | true =>
        rw [hb] at h
        have h : (L.set k0 (3, 0))[j]? = some q := h
        rw [List.getElem?_set] at h
        by_cases hj : k0 = j
        · rw [if_pos hj] at h
          split at h
          · cases h; exact absurd rfl h3
          · cases h
        · rw [if_neg hj] at h
          exact ⟨h, fun e => by omega⟩
      | false =>
        rw [hb] at h
        have hz : L[j]? = some q := h
        refine ⟨hz, fun e => ?_⟩
        have : j = k0 := by omega
        subst this
        have h : L[j]? = some q := h
        rw [hq0] at h
        cases h
        intro e1
        rw [e1] at hb
        cases hb
    · rename_i hn
      refine ⟨h, fun e => ?_⟩
      have : j = k0 := by omega
      subst this
      rw [hn] at h
      cases h
theorem sto1_spec {L L1 : List AV} {k : Nat} {a : AV} (h : sto1 L k a = some L1) : k < L.length ∧ L1.length = L.length ∧ (∀ q ∈ L1, q ∈ L ∨ q = a ∨ q = (3, 0)) ∧ ∀ j q, L1[j]? = some q → q.1 ≠ 3 → (j = k ∧ q = a) ∨ (j ≠ k ∧ L[j]? = some q ∧ (j + 1 = k → q.1 ≠ 1)) := by
  unfold sto1 at h
  cases hb : Nat.blt k L.length with
  | false => rw [hb] at h; cases h
  | true =>
    rw [hb] at h
    have h : some ((inv1 L k).set k a) = some L1 := h
    cases h
    have hk : k < L.length := Nat.le_of_ble_eq_true hb
    refine ⟨hk, by rw [List.length_set, inv1_len], fun q hq => ?_, fun j q hj h3 => ?_⟩
    · rcases List.mem_or_eq_of_mem_set hq with h1 | h1
      · by_cases h3 : q.1 = 3
        · unfold inv1 at h1
          split at h1
          · exact Or.inl h1
          · split at h1
            · rename_i q0 _
              cases hb1 : Nat.beq q0.1 1 with
              | true =>
                rw [hb1] at h1
                rcases List.mem_or_eq_of_mem_set h1 with h2 | h2
                · exact Or.inl h2
                · exact Or.inr (Or.inr h2)
              | false => rw [hb1] at h1; exact Or.inl h1
            · exact Or.inl h1
        · obtain ⟨j, hj⟩ := List.getElem?_of_mem h1
          exact Or.inl (List.mem_of_getElem? (inv1_at hj h3).1)
      · exact Or.inr (Or.inl h1)
    · rw [List.getElem?_set] at hj
      by_cases hk2 : k = j
      · rw [if_pos hk2] at hj
        split at hj
        · cases hj; exact Or.inl ⟨hk2.symm, rfl⟩
        · cases hj
      · rw [if_neg hk2] at hj
        have h1 := inv1_at hj h3
        exact Or.inr ⟨Ne.symm hk2, h1.1, h1.2⟩
theorem sto2_spec {L L1 : List AV} {k : Nat} {a : AV} (h : sto2 L k a = some L1) : k + 1 < L.length ∧ L1.length = L.length ∧ (∀ q ∈ L1, q ∈ L ∨ q = a ∨ q = (3, 0)) ∧ ∀ j q, L1[j]? = some q → q.1 ≠ 3 → (j = k ∧ q = a) ∨ (j ≠ k ∧ j ≠ k + 1 ∧ L[j]? = some q ∧ (j + 1 = k → q.1 ≠ 1)) := by
  unfold sto2 at h
  cases hb : Nat.blt (k + 1) L.length with
  | false => rw [hb] at h; cases h
  | true =>
    rw [hb] at h
    have h : some (((inv1 L k).set k a).set (k + 1) (3, 0)) = some L1 := h
    cases h
    have hk : k + 1 < L.length := Nat.le_of_ble_eq_true hb
    have hs : sto1 L k a = some ((inv1 L k).set k a) := by
      unfold sto1
      rw [show Nat.blt k L.length = true from Nat.ble_eq_true_of_le (by omega)]
      rfl
    obtain ⟨-, s2, s3, s4⟩ := sto1_spec hs
    refine ⟨hk, by rw [List.length_set, s2], fun q hq => ?_, fun j q hj h3 => ?_⟩
    · rcases List.mem_or_eq_of_mem_set hq with h1 | h1
      · exact s3 q h1
      · exact Or.inr (Or.inr h1)
    · rw [List.getElem?_set] at hj
      by_cases hk2 : k + 1 = j
      · rw [if_pos hk2] at hj
        split at hj
        · cases hj; exact absurd rfl h3
        · cases hj
      · rw [if_neg hk2] at hj
        rcases s4 j q hj h3 with h1 | ⟨h1, h2, h4⟩
        · exact Or.inl h1
        · exact Or.inr ⟨h1, Ne.symm hk2, h2, h4⟩
theorem LR.sto1 {E : EE} (hE : E.2.2 = .null ∨ ∃ t, E.2.2 = .ref t) {ad : Nat → Nat} {nL k : Nat} {ls ls1 : Array Slot} {L L1 : List AV} {a : AV} (h : LR E ad nL ls L) (hs : sto1 L k a = some L1)
    (h1 : lv_has ls1 nL ((k, cv E ad a) :: (prs E ad L).filter (fun q => !(q.1 == k) && !(q.1 + 1 == k && q.2.category == 2)))) : LR E ad nL ls1 L1 := by
  obtain ⟨-, s2, -, s4⟩ := sto1_spec hs
  refine ⟨h1.1, by rw [s2, h.2.1], h1.2.1, fun j q hj h3 => ?_⟩
  rcases s4 j q hj h3 with ⟨rfl, rfl⟩ | ⟨g1, g2, g3⟩
  · exact h1.2.2 _ List.mem_cons_self
  · refine h1.2.2 (j, cv E ad q) (List.mem_cons_of_mem _ (List.mem_filter.mpr ⟨prs_mem.mpr ⟨q, g2, h3, rfl⟩, ?_⟩))
    have : (j == k) = false := by simpa using g1
    simp only [this, Bool.not_false, Bool.true_and]
    by_cases hjk : j + 1 = k
    · have := cv_cat hE (ad := ad) (g3 hjk)
      simp [this]
    · have : (j + 1 == k) = false := by simpa using hjk
      simp [this]
theorem LR.sto2 {E : EE} (hE : E.2.2 = .null ∨ ∃ t, E.2.2 = .ref t) {ad : Nat → Nat} {nL k : Nat} {ls ls1 : Array Slot} {L L1 : List AV} {a : AV} (h : LR E ad nL ls L) (hs : sto2 L k a = some L1)
    (h1 : lv_has ls1 nL ((k, cv E ad a) :: (prs E ad L).filter (fun q => !(q.1 == k) && (!(q.1 == k + 1) && !(q.1 + 1 == k && q.2.category == 2))))) : LR E ad nL ls1 L1 := by
  obtain ⟨-, s2, -, s4⟩ := sto2_spec hs
  refine ⟨h1.1, by rw [s2, h.2.1], h1.2.1, fun j q hj h3 => ?_⟩
  rcases s4 j q hj h3 with ⟨rfl, rfl⟩ | ⟨g1, g0, g2, g3⟩
  · exact h1.2.2 _ List.mem_cons_self
  · refine h1.2.2 (j, cv E ad q) (List.mem_cons_of_mem _ (List.mem_filter.mpr ⟨prs_mem.mpr ⟨q, g2, h3, rfl⟩, ?_⟩))
    have e1 : (j == k) = false := by simpa using g1
    have e2 : (j == k + 1) = false := by simpa using g0
    simp only [e1, e2, Bool.not_false, Bool.true_and]
    by_cases hjk : j + 1 = k
    · have := cv_cat hE (ad := ad) (g3 hjk)
      simp [this]
    · have : (j + 1 == k) = false := by simpa using hjk
      simp [this]
theorem ld_some {L : List AV} {k t : Nat} {a : Int} (h : ld L k t = some a) : L[k]? = some (t, a) := by
  unfold ld at h
  split at h
  · rename_i q hq
    cases hb : Nat.beq q.1 t with
    | false => rw [hb] at h; cases h
    | true =>
      rw [hb] at h
      have h : some q.2 = some a := h
      cases h
      rw [hq, ← Nat.eq_of_beq_eq_true hb]
  · cases h
theorem gvar_some {L S : List AV} {σ : Sg} {pc k t : Nat} {q : St} (h : gvar L S σ pc k t = some q) : ∃ a, L[k]? = some (t, a) ∧ q = (pc, L, (t, a) :: S, σ) := by
  unfold gvar at h
  cases hl : ld L k t with
  | none => rw [hl] at h; cases h
  | some a => rw [hl] at h; cases h; exact ⟨a, ld_some hl, rfl⟩
theorem svar1_some {L S : List AV} {σ : Sg} {pc k t : Nat} {q : St} (ht : t ≠ 1) (h : svar L S σ pc k t = some q) : ∃ a S1 L1, S = (t, a) :: S1 ∧ sto1 L k (t, a) = some L1 ∧ q = (pc, L1, S1, σ) := by
  cases S with
  | nil => cases h
  | cons z S =>
    obtain ⟨t0, a⟩ := z
    have h : (bif Nat.beq t0 t then (match (bif Nat.beq t 1 then sto2 L k (t0, a) else sto1 L k (t0, a)) with
      | some L => some (pc, L, S, σ)
      | none => none) else none) = some q := h
    cases hb : Nat.beq t0 t with
    | false => rw [hb] at h; cases h
    | true =>
      rw [hb] at h
      have e := Nat.eq_of_beq_eq_true hb
      subst e
      have e1 : Nat.beq t0 1 = false := by
        cases hq : Nat.beq t0 1 with
        | false => rfl
        | true => exact absurd (Nat.eq_of_beq_eq_true hq) ht
      rw [e1] at h
      dsimp only [cond_true, cond_false] at h
      cases hs : sto1 L k (t0, a) with
      | none => rw [hs] at h; cases h
      | some L1 => rw [hs] at h; cases h; exact ⟨a, S, L1, rfl, hs, rfl⟩
theorem svar2_some {L S : List AV} {σ : Sg} {pc k : Nat} {q : St} (h : svar L S σ pc k 1 = some q) : ∃ a S1 L1, S = (1, a) :: S1 ∧ sto2 L k (1, a) = some L1 ∧ q = (pc, L1, S1, σ) := by
  cases S with
  | nil => cases h
  | cons z S =>
    obtain ⟨t0, a⟩ := z
    cases hb : Nat.beq t0 1 with
    | false =>
      have h : (bif Nat.beq t0 1 then (match sto2 L k (t0, a) with
        | some L => some (pc, L, S, σ)
        | none => none) else none) = some q := h
      rw [hb] at h; cases h
    | true =>
      have h : (bif Nat.beq t0 1 then (match sto2 L k (t0, a) with
        | some L => some (pc, L, S, σ)
        | none => none) else none) = some q := h
      rw [hb] at h
      have e := Nat.eq_of_beq_eq_true hb
      subst e
      dsimp only [cond_true, cond_false] at h
      cases hs : sto2 L k (1, a) with
      | none => rw [hs] at h; cases h
      | some L1 => rw [hs] at h; cases h; exact ⟨a, S, L1, rfl, hs, rfl⟩
