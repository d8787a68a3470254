/-! The small machine's runs: 'run' with fuel f and at most d calls within one another; 'xr' without fuel; 'xR' a method's answer. -/
def lk (K : List En) (pc : Nat) : Option (Instr × List Int) := match K with
  | [] => none
  | e :: K => bif Nat.beq e.1 pc then some e.2 else lk K pc
def isStop (i : Instr) (r : List Int) : Bool := match i with
  | .ireturn => true
  | .lreturn => true
  | .return_ => true
  | .athrow => true
  | _ => match r with
    | [-9] => true
    | _ => false
def calleeOf (i : Instr) (r : List Int) : Option Nat := match i with
  | .invokevirtual _ => match r with
    | [.ofNat y] => some y
    | _ => none
  | .invokespecial _ => match r with
    | [.ofNat y] => some y
    | _ => none
  | .invokestatic _ => match r with
    | [.ofNat y] => some y
    | _ => none
  | _ => none
def popA (ts : List Nat) (S acc : List AV) : Option (List AV × List AV) := match ts with
  | [] => some (acc, S)
  | t :: ts => match S with
    | q :: S => bif Nat.beq q.1 t then popA ts S (q :: acc) else none
    | [] => none
def layA (as : List AV) : List AV := match as with
  | [] => []
  | a :: as => bif Nat.beq a.1 1 then a :: (3, 0) :: layA as else a :: layA as
def entL (y : Nat) (as : List AV) : List AV := layA as ++ List.replicate ((mi y).2.2.2.2 - (layA as).length) (3, 0)
def recvOk (y : Nat) (as : List AV) (σ : Sg) : Bool := (mi y).2.2.2.1 || (match as with
  | q :: _ => bif Nat.beq (mi y).1 11 then (strOf nS q.2).isSome else isC σ q.2 (mi y).1
  | [] => false)
def okRet (t : Nat) (a : Int) : Prop := match t with
  | 4 => a = 0 ∨ a = 1
  | 5 => -128 ≤ a ∧ a < 128
  | 6 => 0 ≤ a ∧ a < 65536
  | _ => True
def retI (t : Nat) (S : List AV) : Option (List AV) := match S with
  | [q] => bif Nat.beq q.1 0 then (match t with
    | 0 => some [q]
    | 4 => if q.2 = 0 ∨ q.2 = 1 then some [q] else none
    | 5 => if -128 ≤ q.2 ∧ q.2 < 128 then some [q] else none
    | 6 => if 0 ≤ q.2 ∧ q.2 < 65536 then some [q] else none
    | _ => none) else none
  | _ => none
def retV (y pc : Nat) (S : List AV) : Option (List AV) := match lk (cod y) pc with
  | none => none
  | some (i, _) => match i with
    | .ireturn => retI (mi y).2.2.1 S
    | .lreturn => match S with
      | [q] => bif Nat.beq q.1 1 && Nat.beq (mi y).2.2.1 1 then some [q] else none
      | _ => none
    | .return_ => match S with
      | [] => bif Nat.beq (mi y).2.2.1 9 then some [] else none
      | _ => none
    | _ => none
def run : Nat → Nat → Nat → Nat → List AV → List AV → Sg → Option St
  | 0, _, _, _, _, _, _ => none
  | f + 1, d, y, pc, L, S, σ => match lk (cod y) pc with
    | none => none
    | some (i, r) => match isStop i r with
      | true => some (pc, L, S, σ)
      | false => match calleeOf i r with
        | some y' => match d with
          | 0 => none
          | d' + 1 => match popA (mi y').2.1.reverse S [] with
            | none => none
            | some (as, S') => match recvOk y' as σ && decide (catS S' ≤ 8) with
              | false => none
              | true => match run f d' y' 0 (entL y' as) [] σ with
                | none => none
                | some (pc', _, S'', σ') => match retV y' pc' S'' with
                  | none => none
                  | some rv => run f (d' + 1) y (pc + 3) L (rv ++ S') σ'
        | none => match stp nS sB i r pc L S σ with
          | none => none
          | some (pc', L', S', σ') => run f d y pc' L' S' σ'
theorem run_succ (f d y pc : Nat) (L S : List AV) (σ : Sg) : run (f + 1) d y pc L S σ = (match lk (cod y) pc with
    | none => none
    | some (i, r) => match isStop i r with
      | true => some (pc, L, S, σ)
      | false => match calleeOf i r with
        | some y' => match d with
          | 0 => none
          | d' + 1 => match popA (mi y').2.1.reverse S [] with
            | none => none
            | some (as, S') => match recvOk y' as σ && decide (catS S' ≤ 8) with
              | false => none
              | true => match run f d' y' 0 (entL y' as) [] σ with
                | none => none
                | some (pc', _, S'', σ') => match retV y' pc' S'' with
                  | none => none
                  | some rv => run f (d' + 1) y (pc + 3) L (rv ++ S') σ'
        | none => match stp nS sB i r pc L S σ with
          | none => none
          | some (pc', L', S', σ') => run f d y pc' L' S' σ') := rfl
theorem run_mono1 : ∀ (f d y pc : Nat) (L S : List AV) (σ : Sg) (r : St), run f d y pc L S σ = some r → run (f + 1) d y pc L S σ = some r := by
  intro f
  induction f with
  | zero => intro d y pc L S σ r h; cases h
  | succ f ih =>
    intro d y pc L S σ r h
    rw [run_succ] at h ⊢
    cases h1 : lk (cod y) pc with
    | none => rw [h1] at h; cases h
    | some e =>
      obtain ⟨i, rr⟩ := e
      rw [h1] at h
      dsimp only at h ⊢
      cases h2 : isStop i rr with
      | true => rw [h2] at h; exact h
      | false =>
        rw [h2] at h
        dsimp only at h ⊢
        cases h3 : calleeOf i rr with
        | none =>
          rw [h3] at h
          dsimp only at h ⊢
          cases h4 : stp nS sB i rr pc L S σ with
          | none => rw [h4] at h; cases h
          | some q =>
            obtain ⟨pc', L', S', σ'⟩ := q
            rw [h4] at h
            exact ih _ _ _ _ _ _ _ h
        | some y' =>
          rw [h3] at h
          dsimp only at h ⊢
          cases d with
          | zero => cases h
          | succ d =>
            dsimp only at h ⊢
            cases h5 : popA (mi y').2.1.reverse S [] with
            | none => rw [h5] at h; cases h
            | some q =>
              obtain ⟨as, S'⟩ := q
              rw [h5] at h
              dsimp only at h ⊢
              cases h6 : (recvOk y' as σ && decide (catS S' ≤ 8)) with
              | false => rw [h6] at h; cases h
              | true =>
                rw [h6] at h
                dsimp only at h ⊢
                cases h7 : run f d y' 0 (entL y' as) [] σ with
                | none => rw [h7] at h; cases h
                | some q =>
                  obtain ⟨pc', L', S'', σ'⟩ := q
                  rw [h7] at h
                  rw [ih _ _ _ _ _ _ _ h7]
                  dsimp only at h ⊢
                  cases h8 : retV y' pc' S'' with
                  | none => rw [h8] at h; cases h
                  | some rv =>
                    rw [h8] at h
                    exact ih _ _ _ _ _ _ _ h
theorem run_mono {f g d y pc : Nat} {L S : List AV} {σ : Sg} {r : St} (hfg : f ≤ g) (h : run f d y pc L S σ = some r) : run g d y pc L S σ = some r := by
  induction hfg with
  | refl => exact h
  | step _ ih => exact run_mono1 _ _ _ _ _ _ _ _ ih
theorem run_same {f g d y pc : Nat} {L S : List AV} {σ : Sg} {r r' : St} (h : run f d y pc L S σ = some r) (h' : run g d y pc L S σ = some r') : r = r' := by
  have h1 := run_mono (Nat.le_max_left f g) h
  have h2 := run_mono (Nat.le_max_right f g) h'
  exact Option.some.inj (h1.symm.trans h2)
noncomputable def xr (d y pc : Nat) (L S : List AV) (σ : Sg) : Option St := @dite _ (∃ r f, run f d y pc L S σ = some r) (Classical.propDecidable _) (fun h => some h.choose) (fun _ => none)
theorem x_some {d y pc : Nat} {L S : List AV} {σ : Sg} {r : St} : xr d y pc L S σ = some r ↔ ∃ f, run f d y pc L S σ = some r := by
  unfold xr
  constructor
  · intro h
    split at h
    · rename_i hh
      cases h
      exact hh.choose_spec
    · cases h
  · rintro ⟨f, h⟩
    have hh : ∃ r f, run f d y pc L S σ = some r := ⟨r, f, h⟩
    rw [dif_pos hh]
    obtain ⟨g, hg⟩ := hh.choose_spec
    rw [run_same h hg]
theorem opt_ext {α : Type} {a b : Option α} (h : ∀ r, a = some r ↔ b = some r) : a = b := by
  cases a with
  | none => cases b with
    | none => rfl
    | some r => exact absurd ((h r).mpr rfl) (by simp)
  | some r => exact ((h r).mp rfl).symm
/-- one instruction that is no call -/
theorem x_stp {d y pc : Nat} {L S : List AV} {σ : Sg} {i : Instr} {r : List Int} (h1 : lk (cod y) pc = some (i, r)) (h2 : isStop i r = false) (h3 : calleeOf i r = none) :
    xr d y pc L S σ = (stp nS sB i r pc L S σ).bind (fun q => xr d y q.1 q.2.1 q.2.2.1 q.2.2.2) := by
  refine opt_ext fun q => ?_
  rw [x_some]
  constructor
  · rintro ⟨f, h⟩
    cases f with
    | zero => cases h
    | succ f =>
      rw [run_succ, h1] at h
      dsimp only at h
      rw [h2] at h
      dsimp only at h
      rw [h3] at h
      dsimp only at h
      cases h4 : stp nS sB i r pc L S σ with
      | none => rw [h4] at h; cases h
      | some p =>
        rw [h4] at h
        exact x_some.mpr ⟨f, h⟩
  · intro h
    cases h4 : stp nS sB i r pc L S σ with
    | none => rw [h4] at h; cases h
    | some p =>
      rw [h4] at h
      obtain ⟨f, hf⟩ := x_some.mp h
      refine ⟨f + 1, ?_⟩
      rw [run_succ, h1]
      dsimp only
      rw [h2]
      dsimp only
      rw [h3]
      dsimp only
      rw [h4]
      exact hf
theorem x_stop {d y pc : Nat} {L S : List AV} {σ : Sg} {i : Instr} {r : List Int} (h1 : lk (cod y) pc = some (i, r)) (h2 : isStop i r = true) : xr d y pc L S σ = some (pc, L, S, σ) := by
  refine x_some.mpr ⟨1, ?_⟩
  rw [run_succ, h1]
  dsimp only
  rw [h2]
/-- a method's answer and what it leaves -/
noncomputable def xR (d y pc : Nat) (L S : List AV) (σ : Sg) : Option (List AV × Sg) := (xr d y pc L S σ).bind (fun q => (retV y q.1 q.2.2.1).map (fun rv => (rv, q.2.2.2)))
theorem x_call {d y pc y' : Nat} {L S as S' : List AV} {σ : Sg} {i : Instr} {r : List Int} (h1 : lk (cod y) pc = some (i, r)) (h2 : isStop i r = false) (h3 : calleeOf i r = some y') (h5 : popA (mi y').2.1.reverse S [] = some (as, S')) (h6 : (recvOk y' as σ && decide (catS S' ≤ 8)) = true) :
    xr (d + 1) y pc L S σ = (xR d y' 0 (entL y' as) [] σ).bind (fun q => xr (d + 1) y (pc + 3) L (q.1 ++ S') q.2) := by
  refine opt_ext fun q => ?_
  rw [x_some]
  constructor
  · rintro ⟨f, h⟩
    cases f with
    | zero => cases h
    | succ f =>
      rw [run_succ, h1] at h
      dsimp only at h
      rw [h2] at h
      dsimp only at h
      rw [h3] at h
      dsimp only at h
      rw [h5] at h
      dsimp only at h
      rw [h6] at h
      dsimp only at h
      cases h7 : run f d y' 0 (entL y' as) [] σ with
      | none => rw [h7] at h; cases h
      | some p =>
        obtain ⟨pc', L', S'', σ'⟩ := p
        rw [h7] at h
        dsimp only at h
        cases h8 : retV y' pc' S'' with
        | none => rw [h8] at h; cases h
        | some rv =>
          rw [h8] at h
          have e : xR d y' 0 (entL y' as) [] σ = some (rv, σ') := by
            unfold xR
            rw [x_some.mpr ⟨f, h7⟩]
            show (retV y' pc' S'').map _ = _
            rw [h8]
            rfl
          rw [e]
          exact x_some.mpr ⟨f, h⟩
  · intro h
    cases hX : xR d y' 0 (entL y' as) [] σ with
    | none => rw [hX] at h; cases h
    | some p =>
      obtain ⟨rv, σ'⟩ := p
      rw [hX] at h
      obtain ⟨f, hf⟩ := x_some.mp (show xr (d + 1) y (pc + 3) L (rv ++ S') σ' = some q from h)
      unfold xR at hX
      cases h7 : xr d y' 0 (entL y' as) [] σ with
      | none => rw [h7] at hX; cases hX
      | some p =>
        obtain ⟨pc', L', S'', σ''⟩ := p
        rw [h7] at hX
        have hX' : (retV y' pc' S'').map (fun rv => (rv, σ'')) = some (rv, σ') := hX
        cases h8 : retV y' pc' S'' with
        | none => rw [h8] at hX'; cases hX'
        | some rv' =>
          rw [h8] at hX'
          cases hX'
          obtain ⟨g, hg⟩ := x_some.mp h7
          refine ⟨max f g + 1, ?_⟩
          rw [run_succ, h1]
          dsimp only
          rw [h2]
          dsimp only
          rw [h3]
          dsimp only
          rw [h5]
          dsimp only
          rw [h6]
          dsimp only
          rw [run_mono (Nat.le_max_right f g) hg]
          dsimp only
          rw [h8]
          exact run_mono (Nat.le_max_left f g) hf
