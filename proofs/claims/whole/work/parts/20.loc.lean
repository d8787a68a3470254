/-! Runs with more depth, and with other dead locals. -/
theorem run_deep1 : ∀ (f d y pc : Nat) (L S : List AV) (σ : Sg) (r : St), run f d y pc L S σ = some r → run f (d + 1) y pc L S σ = some r := by
  intro f
  induction f with
  | zero => intro d y pc L S σ r h; cases h
  | succ f ih =>
    intro d y pc L S σ r h
    rw [run_succ] at h ⊢
    cases h1 : lk (cod y) pc with
    | none => rw [h1] at h; cases h
    | some e =>
      obtain ⟨i, rr⟩ := e
      rw [h1] at h
      dsimp only at h ⊢
      cases h2 : isStop i rr with
      | true => rw [h2] at h; exact h
      | false =>
        rw [h2] at h
        dsimp only at h ⊢
        cases h3 : calleeOf i rr with
        | none =>
          rw [h3] at h
          dsimp only at h ⊢
          cases h4 : stp nS sB i rr pc L S σ with
          | none => rw [h4] at h; cases h
          | some q =>
            obtain ⟨pc', L', S', σ'⟩ := q
            rw [h4] at h
            exact ih _ _ _ _ _ _ _ h
        | some y' =>
          rw [h3] at h
          dsimp only at h ⊢
          cases d with
          | zero => cases h
          | succ d =>
            dsimp only at h ⊢
            cases h5 : popA (mi y').2.1.reverse S [] with
            | none => rw [h5] at h; cases h
            | some q =>
              obtain ⟨as, S'⟩ := q
              rw [h5] at h
              dsimp only at h ⊢
              cases h6 : (recvOk y' as σ && decide (catS S' ≤ 8)) with
              | false => rw [h6] at h; cases h
              | true =>
                rw [h6] at h
                dsimp only at h ⊢
                cases h7 : run f d y' 0 (entL y' as) [] σ with
                | none => rw [h7] at h; cases h
                | some q =>
                  obtain ⟨pc', L', S'', σ'⟩ := q
                  rw [h7] at h
                  rw [ih _ _ _ _ _ _ _ h7]
                  dsimp only at h ⊢
                  cases h8 : retV y' pc' S'' with
                  | none => rw [h8] at h; cases h
                  | some rv =>
                    rw [h8] at h
                    exact ih _ _ _ _ _ _ _ h
def Lle (L L' : List AV) : Prop := L.length = L'.length ∧ ∀ (i : Nat) (q : AV), L[i]? = some q → q.1 = 3 ∨ L'[i]? = some q
theorem Lle.refl (L : List AV) : Lle L L := ⟨rfl, fun _ _ h => Or.inr h⟩
theorem inv1_keep {L : List AV} {k j : Nat} {q : AV} (h : L[j]? = some q) (h1 : j + 1 = k → q.1 ≠ 1) : (inv1 L k)[j]? = some q := by
  unfold inv1
  split
  · exact h
  · rename_i k0
    split
    · rename_i q0 hq0
      cases hb : Nat.beq q0.1 1 with
      | false => exact h
      | true =>
        show (L.set k0 (3, 0))[j]? = some q
        rw [List.getElem?_set]
        by_cases hj : k0 = j
        · subst hj
          rw [hq0] at h
          cases h
          exact absurd (Nat.eq_of_beq_eq_true hb) (h1 rfl)
        · rw [if_neg hj]
          exact h
    · exact h
theorem Lle.sto1 {L L' L1 : List AV} {k : Nat} {a : AV} (hl : Lle L L') (h : sto1 L k a = some L1) : ∃ L1', sto1 L' k a = some L1' ∧ Lle L1 L1' := by
  obtain ⟨h1, h2, -, h4⟩ := sto1_spec h
  have hk : k < L'.length := by rw [← hl.1]; exact h1
  refine ⟨(inv1 L' k).set k a, ?_, ?_⟩
  · have hb : Nat.blt k L'.length = true := Nat.ble_eq_true_of_le hk
    show (bif Nat.blt k L'.length then some ((inv1 L' k).set k a) else none) = _
    rw [hb]
    rfl
  · refine ⟨by rw [List.length_set, inv1_len, h2, hl.1], fun i q hq => ?_⟩
    by_cases h3 : q.1 = 3
    · exact Or.inl h3
    · right
      rw [List.getElem?_set]
      rcases h4 i q hq h3 with ⟨e1, e2⟩ | ⟨e1, e2, e3⟩
      · subst e1
        subst e2
        rw [if_pos rfl, if_pos (by rw [inv1_len]; exact hk)]
      · rw [if_neg (fun e => e1 e.symm)]
        rcases hl.2 i q e2 with h5 | h5
        · exact absurd h5 h3
        · exact inv1_keep h5 e3
theorem Lle.sto2 {L L' L1 : List AV} {k : Nat} {a : AV} (hl : Lle L L') (h : sto2 L k a = some L1) : ∃ L1', sto2 L' k a = some L1' ∧ Lle L1 L1' := by
  obtain ⟨h1, h2, -, h4⟩ := sto2_spec h
  have hk : k + 1 < L'.length := by rw [← hl.1]; exact h1
  refine ⟨((inv1 L' k).set k a).set (k + 1) (3, 0), ?_, ?_⟩
  · have hb : Nat.blt (k + 1) L'.length = true := Nat.ble_eq_true_of_le hk
    show (bif Nat.blt (k + 1) L'.length then some (((inv1 L' k).set k a).set (k + 1) (3, 0)) else none) = _
    rw [hb]
    rfl
  · refine ⟨by rw [List.length_set, List.length_set, inv1_len, h2, hl.1], fun i q hq => ?_⟩
    by_cases h3 : q.1 = 3
    · exact Or.inl h3
    · right
      rw [List.getElem?_set, List.getElem?_set]
      rcases h4 i q hq h3 with ⟨e1, e2⟩ | ⟨e1, e0, e2, e3⟩
      · subst e1
        subst e2
        rw [if_neg (by omega), if_pos rfl, if_pos (by rw [inv1_len]; omega)]
      · rw [if_neg (fun e => e0 e.symm), if_neg (fun e => e1 e.symm)]
        rcases hl.2 i q e2 with h5 | h5
        · exact absurd h5 h3
        · exact inv1_keep h5 e3
theorem Lle.ld {L L' : List AV} {k t : Nat} {a : Int} (hl : Lle L L') (ht : t ≠ 3) (h : ld L k t = some a) : ld L' k t = some a := by
  have h1 := ld_some h
  rcases hl.2 k _ h1 with h2 | h2
  · exact absurd h2 ht
  · show (match L'[k]? with | some q => bif Nat.beq q.1 t then some q.2 else none | none => none) = some a
    rw [h2]
    show (bif Nat.beq t t then some a else none) = some a
    rw [Nat.beq_refl]
    rfl
/-- the same end with other dead locals -/
def PL (o o' : Option St) : Prop := ∀ q, o = some q → ∃ L1, o' = some (q.1, L1, q.2.2.1, q.2.2.2) ∧ Lle q.2.1 L1
theorem PL_n {o : Option St} : PL none o := fun q h => by cases h
theorem PL_s {pc : Nat} {L L' S : List AV} {σ : Sg} (h : Lle L L') : PL (some (pc, L, S, σ)) (some (pc, L', S, σ)) := fun q hq => by cases hq; exact ⟨L', rfl, h⟩
theorem PL_pI {pc : Nat} {L L' S : List AV} {σ : Sg} {a : Int} (h : Lle L L') : PL (pI pc L S σ a) (pI pc L' S σ a) := PL_s h
theorem PL_pJ {pc : Nat} {L L' S : List AV} {σ : Sg} {a : Int} (h : Lle L L') : PL (pJ pc L S σ a) (pJ pc L' S σ a) := PL_s h
theorem PL_pR {pc : Nat} {L L' S : List AV} {σ : Sg} {a : Int} (h : Lle L L') : PL (pR pc L S σ a) (pR pc L' S σ a) := PL_s h
theorem PL_bI {S : List AV} {f g : Int → List AV → Option St} (h : ∀ a S, PL (f a S) (g a S)) : PL (bI S f) (bI S g) := by
  cases S with
  | nil => exact PL_n
  | cons q S =>
    show PL (bif Nat.beq q.1 0 then f q.2 S else none) (bif Nat.beq q.1 0 then g q.2 S else none)
    cases Nat.beq q.1 0 with
    | true => exact h _ _
    | false => exact PL_n
theorem PL_bJ {S : List AV} {f g : Int → List AV → Option St} (h : ∀ a S, PL (f a S) (g a S)) : PL (bJ S f) (bJ S g) := by
  cases S with
  | nil => exact PL_n
  | cons q S =>
    show PL (bif Nat.beq q.1 1 then f q.2 S else none) (bif Nat.beq q.1 1 then g q.2 S else none)
    cases Nat.beq q.1 1 with
    | true => exact h _ _
    | false => exact PL_n
theorem PL_bR {S : List AV} {f g : Int → List AV → Option St} (h : ∀ a S, PL (f a S) (g a S)) : PL (bR S f) (bR S g) := by
  cases S with
  | nil => exact PL_n
  | cons q S =>
    show PL (bif Nat.beq q.1 2 then f q.2 S else none) (bif Nat.beq q.1 2 then g q.2 S else none)
    cases Nat.beq q.1 2 with
    | true => exact h _ _
    | false => exact PL_n
theorem PL_bif {b : Bool} {x y : Option St} (h : PL x y) : PL (bif0 b x) (bif0 b y) := by
  cases b with
  | true => exact h
  | false => exact PL_n
theorem PL_g {p : Prop} [Decidable p] {x y : Option St} (h : PL x y) : PL (guardP p x) (guardP p y) := by
  unfold guardP
  split
  · exact h
  · exact PL_n
theorem PL_cond {b : Bool} {x y x' y' : Option St} (h1 : PL x x') (h2 : PL y y') : PL (bif b then x else y) (bif b then x' else y') := by
  cases b with
  | true => exact h1
  | false => exact h2
theorem PL_ite {p : Prop} [Decidable p] {x y x' y' : Option St} (h1 : PL x x') (h2 : PL y y') : PL (if p then x else y) (if p then x' else y') := by
  split
  · exact h1
  · exact h2
theorem PL_gv {L L' S : List AV} {σ : Sg} {pc k t : Nat} (hl : Lle L L') (ht : t ≠ 3) : PL (gvar L S σ pc k t) (gvar L' S σ pc k t) := fun q h => by
  unfold gvar at h ⊢
  cases h1 : ld L k t with
  | none => rw [h1] at h; cases h
  | some a =>
    rw [h1] at h
    cases h
    rw [hl.ld ht h1]
    exact ⟨L', rfl, hl⟩
theorem PL_sv {L L' S : List AV} {σ : Sg} {pc k t : Nat} (hl : Lle L L') : PL (svar L S σ pc k t) (svar L' S σ pc k t) := fun q h => by
  by_cases ht : t = 1
  · subst ht
    obtain ⟨a, S1, L1, rfl, h2, rfl⟩ := svar2_some h
    obtain ⟨L2, h3, h4⟩ := hl.sto2 h2
    refine ⟨L2, ?_, h4⟩
    show (match sto2 L' k (1, a) with | some L => some (pc, L, S1, σ) | none => none) = _
    rw [h3]
  · obtain ⟨a, S1, L1, rfl, h2, rfl⟩ := svar1_some ht h
    obtain ⟨L2, h3, h4⟩ := hl.sto1 h2
    refine ⟨L2, ?_, h4⟩
    have hb : Nat.beq t 1 = false := by
      cases hz : Nat.beq t 1 with
      | false => rfl
      | true => exact absurd (Nat.eq_of_beq_eq_true hz) ht
    show (bif Nat.beq t t then (match (bif Nat.beq t 1 then sto2 L' k (t, a) else sto1 L' k (t, a)) with | some L => some (pc, L, S1, σ) | none => none) else none) = _
    rw [Nat.beq_refl, hb]
    show (match sto1 L' k (t, a) with | some L => some (pc, L, S1, σ) | none => none) = _
    rw [h3]
theorem PL_gf {L L' S : List AV} {σ : Sg} {pc tg ci k : Nat} {a : Int} (hl : Lle L L') : PL (gfld L S σ pc tg ci k a) (gfld L' S σ pc tg ci k a) := by
  unfold gfld
  exact PL_cond (PL_s hl) PL_n
theorem PL_pf {L L' S : List AV} {σ : Sg} {pc tg ci k : Nat} {q : AV} {a : Int} (hl : Lle L L') : PL (pfld L S σ pc tg ci k q a) (pfld L' S σ pc tg ci k q a) := by
  unfold pfld
  refine PL_cond ?_ PL_n
  split
  · exact PL_cond (PL_s hl) PL_n
  · exact PL_cond (PL_s hl) PL_n
  · exact PL_cond (PL_s hl) PL_n
  · exact PL_cond (PL_ite (PL_s hl) PL_n) PL_n
theorem PL_iinc {L L' S : List AV} {σ : Sg} {pc k : Nat} {n : Int} (hl : Lle L L') : PL (match ld L k 0 with
    | some a => match sto1 L k (0, w32 (a + n)) with
      | some L => some (pc, L, S, σ)
      | none => none
    | none => none) (match ld L' k 0 with
    | some a => match sto1 L' k (0, w32 (a + n)) with
      | some L => some (pc, L, S, σ)
      | none => none
    | none => none) := fun q h => by
  cases h1 : ld L k 0 with
  | none => rw [h1] at h; cases h
  | some a =>
    rw [h1] at h
    dsimp only at h
    cases h2 : sto1 L k (0, w32 (a + n)) with
    | none => rw [h2] at h; cases h
    | some L1 =>
      rw [h2] at h
      cases h
      obtain ⟨L2, h3, h4⟩ := hl.sto1 h2
      rw [hl.ld (by decide) h1]
      dsimp only
      rw [h3]
      exact ⟨L2, rfl, h4⟩
theorem stp_loc {L L' : List AV} (hl : Lle L L') (i : Instr) (r : List Int) (pc : Nat) (S : List AV) (σ : Sg) : PL (stp nS sB i r pc L S σ) (stp nS sB i r pc L' S σ) := by
  cases i <;> (unfold stp; dsimp only) <;> repeat' (first | exact PL_n | exact PL_s hl | exact PL_pI hl | exact PL_pJ hl | exact PL_pR hl | exact PL_gv hl (by decide) | exact PL_sv hl | exact PL_gf hl | exact PL_pf hl | exact PL_iinc hl | (refine PL_bI (fun a S => ?_)) | (refine PL_bJ (fun a S => ?_)) | (refine PL_bR (fun a S => ?_)) | (refine PL_bif ?_) | (refine PL_g ?_) | (refine PL_cond ?_ ?_) | split)
theorem run_loc : ∀ (f d y pc : Nat) (L L' S : List AV) (σ : Sg) (q : St), Lle L L' → run f d y pc L S σ = some q → ∃ L1, run f d y pc L' S σ = some (q.1, L1, q.2.2.1, q.2.2.2) := by
  intro f
  induction f with
  | zero => intro d y pc L L' S σ q _ h; cases h
  | succ f ih =>
    intro d y pc L L' S σ q hl h
    rw [run_succ] at h ⊢
    cases h1 : lk (cod y) pc with
    | none => rw [h1] at h; cases h
    | some e =>
      obtain ⟨i, rr⟩ := e
      rw [h1] at h
      dsimp only at h ⊢
      cases h2 : isStop i rr with
      | true => rw [h2] at h; cases h; exact ⟨L', rfl⟩
      | false =>
        rw [h2] at h
        dsimp only at h ⊢
        cases h3 : calleeOf i rr with
        | none =>
          rw [h3] at h
          dsimp only at h ⊢
          cases h4 : stp nS sB i rr pc L S σ with
          | none => rw [h4] at h; cases h
          | some z =>
            obtain ⟨pc', L2, S', σ'⟩ := z
            rw [h4] at h
            obtain ⟨L3, h5, h6⟩ := stp_loc hl i rr pc S σ _ h4
            rw [h5]
            exact ih _ _ _ _ _ _ _ _ h6 h
        | some y' =>
          rw [h3] at h
          dsimp only at h ⊢
          cases d with
          | zero => cases h
          | succ d =>
            dsimp only at h ⊢
            cases h5 : popA (mi y').2.1.reverse S [] with
            | none => rw [h5] at h; cases h
            | some z =>
              obtain ⟨as, S'⟩ := z
              rw [h5] at h
              dsimp only at h ⊢
              cases h6 : (recvOk y' as σ && decide (catS S' ≤ 8)) with
              | false => rw [h6] at h; cases h
              | true =>
                rw [h6] at h
                dsimp only at h ⊢
                cases h7 : run f d y' 0 (entL y' as) [] σ with
                | none => rw [h7] at h; cases h
                | some z =>
                  obtain ⟨pc', L2, S'', σ'⟩ := z
                  rw [h7] at h
                  dsimp only at h ⊢
                  cases h8 : retV y' pc' S'' with
                  | none => rw [h8] at h; cases h
                  | some rv =>
                    rw [h8] at h
                    exact ih _ _ _ _ _ _ _ _ hl h
