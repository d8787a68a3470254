/-! What a program does: how many rows come, STEPS and blocks are bounded. -/
def okE (m s : Nat) (ρ : Rho) (r : XE) : Prop := match r with
  | .error e => 1 ≤ e.1 ∧ e.1 ≤ 5
  | .ok q => q.1.length = m ∧ rN ρ ≤ rN q.2 ∧ rN q.2 ≤ 20000 ∧ rK q.2 + 40 * rN ρ ≤ rK ρ + 40 * rN q.2 + s
theorem okE.weak {m s s' : Nat} {ρ : Rho} {r : XE} (h : okE m s ρ r) (hs : s ≤ s') : okE m s' ρ r := by
  match r, h with
  | .error e, h => exact h
  | .ok q, h => exact ⟨h.1, h.2.1, h.2.2.1, by have := h.2.2.2; omega⟩
theorem okE.bnd {m s m' s' : Nat} {ρ : Rho} {r : XE} {k : List Rw → Rho → XE} (h : okE m s ρ r) (hk : ∀ q ρ1, r = .ok (q, ρ1) → q.length = m → rN ρ1 ≤ 20000 → okE m' s' ρ1 (k q ρ1)) : okE m' (s + s') ρ (bE r k) := by
  match r, h with
  | .error e, h => exact h
  | .ok (q, ρ1), h =>
    obtain ⟨h1, h2, h3, h4⟩ := h
    have h1 : q.length = m := h1
    have h2 : rN ρ ≤ rN ρ1 := h2
    have h3 : rN ρ1 ≤ 20000 := h3
    have h4 : rK ρ1 + 40 * rN ρ ≤ rK ρ + 40 * rN ρ1 + s := h4
    have q1 := hk q ρ1 rfl h1 h3
    show okE m' (s + s') ρ (k q ρ1)
    match hkk : k q ρ1, q1 with
    | .error e, q1 => exact q1
    | .ok p, q1 =>
      obtain ⟨g1, g2, g3, g4⟩ := q1
      exact ⟨g1, by omega, g3, by omega⟩
theorem okE.ret {s : Nat} {ρ : Rho} {S : List Rw} {r : Rw} (h : rN ρ ≤ 20000) : okE 1 s ρ (rtE S r ρ) := ⟨rfl, Nat.le_refl _, h, by show rK ρ + 40 * rN ρ ≤ rK ρ + 40 * rN ρ + s; omega⟩
theorem okE.er {m s : Nat} {ρ ρ' : Rho} {k : Int} (h1 : 1 ≤ k) (h2 : k ≤ 5) : okE m s ρ (.error (k, ρ')) := ⟨h1, h2⟩
theorem okE.mk {z m : Nat} {ρ : Rho} {S : List Rw} {g : Nat → Int} (h : rN ρ ≤ 20000) : okE 1 1 ρ (mkE z S m g ρ) := by
  unfold mkE
  split
  · exact okE.er (by decide) (by decide)
  · exact ⟨rfl, Nat.le_refl _, h, by show rK ρ + 1 + 40 * rN ρ ≤ rK ρ + 40 * rN ρ + 1; omega⟩
theorem okE.fd {ρ : Rho} {S : List Rw} {x r : Rw} {tx : Nat → Int} (h : rN ρ ≤ 20000) : okE 1 1 ρ (fdE tx S x r ρ) := by
  unfold fdE
  split
  · exact okE.er (by decide) (by decide)
  · exact ⟨rfl, by show rN ρ ≤ rN ρ + _; omega, by show rN ρ + _ ≤ 20000; omega, by show rK ρ + 40 * rN ρ ≤ rK ρ + 40 * (rN ρ + _) + 1; omega⟩
theorem okE.op {z : Nat} {ρ : Rho} {S : List Rw} {x r : Rw} {tx : Nat → Int} {k ty : Int} (h : rN ρ ≤ 20000) : okE 1 1 ρ (opE tx z k ty S x r ρ) := by
  unfold opE
  split
  · exact okE.ret h
  · split
    · unfold jnE
      split
      · exact okE.ret h
      · split
        · exact okE.ret h
        · exact okE.mk h
    · split
      · exact okE.er (by decide) (by decide)
      · exact okE.ret h
theorem okE.one {z : Nat} {ρ : Rho} {S : List Rw} {x : Rw} {k : Int} (h : rN ρ ≤ 20000) : okE 1 1 ρ (oneE z k S x ρ) := by
  unfold oneE
  split
  · exact okE.ret h
  · split
    · exact okE.mk h
    · exact okE.mk h
theorem evE_ok {u : Nat → Int} {n : Nat} {G : Fn} {tx : Nat → Int} {z : Nat} {cl : XC} {B : Nat} {L : Sc} (hcl : ∀ ci S ρ, rN ρ ≤ 20000 → okE 1 0 ρ (cl ci S ρ)) : ∀ (N : Nat) (e : Jvm.Term), SizeOf.sizeOf e < N → (wfE (kd u n) false e → ∀ S ρ, rN ρ ≤ 20000 → okE 1 (sgn e) ρ (evE u n G tx z cl B L e S ρ)) ∧ (wfE (kd u n) true e → ∀ S ρ, rN ρ ≤ 20000 → okE (argc e) (sgn e) ρ (evE u n G tx z cl B L e S ρ)) := by
  intro N
  induction N with
  | zero => intro e he; exact absurd he (Nat.not_lt_zero _)
  | succ N ih =>
    intro e he
    constructor
    · intro hw
      unfold wfE at hw
      split at hw
      · rename_i h; cases h
      · rename_i h; cases h
      · exact hw.elim
      · intro S ρ h
        exact ⟨rfl, Nat.le_refl _, h, by show rK ρ + 40 * rN ρ ≤ rK ρ + 40 * rN ρ + 0; omega⟩
      · rename_i i e1 _
        intro S ρ h
        exact (ih e1 (by simp at he; omega)).1 hw S ρ h
      · rename_i i e1 _
        intro S ρ h
        exact ((ih e1 (by simp at he; omega)).1 hw.2 S ρ h).bnd (s' := 1) (fun q ρ1 _ _ h1 => okE.ret h1)
      · rename_i i l r _
        intro S ρ h
        have a1 := (ih l (by simp at he; omega)).1 hw.2.1
        have b1 := (ih r (by simp at he; omega)).1 hw.2.2
        show okE 1 (sgn l + sgn r + 1) ρ (if lvl (kd u n i) ≤ 1 then _ else _)
        split
        · refine ((a1 S ρ h).bnd (s' := sgn r + 1) (fun q ρ1 _ _ h1 => ?_)).weak (by omega)
          by_cases c : tr (g2 q 0).2.1 = (if kd u n i = 20 then 1 else 0)
          · rw [if_pos c]
            exact okE.ret h1
          · rw [if_neg c]
            exact ((b1 S (wH ρ1 (gc S z0 (rH ρ1))) h1).bnd (s' := 1) (fun q2 ρ2 _ _ h2 => okE.ret h2) : okE 1 (sgn r + 1) (wH ρ1 (gc S z0 (rH ρ1))) _)
        · exact ((a1 S ρ h).bnd (s' := sgn r + 1) (fun q ρ1 _ _ h1 => (b1 _ _ h1).bnd (s' := 1) (fun q2 ρ2 _ _ h2 => okE.op h2))).weak (by omega)
      · rename_i s e1 _
        intro S ρ h
        exact (((ih s (by simp at he; omega)).1 hw.1 S ρ h).bnd (s' := sgn e1 + 1) (fun q ρ1 _ _ h1 => ((ih e1 (by simp at he; omega)).1 hw.2 _ _ h1).bnd (s' := 1) (fun q2 ρ2 _ _ h2 => okE.ret h2))).weak (by show _ ≤ sgn s + sgn e1 + 1; omega)
      · rename_i s a b _
        intro S ρ h
        have a1 := (ih a (by simp at he; omega)).1 hw.2.1
        have b1 := (ih b (by simp at he; omega)).1 hw.2.2
        have pr : ∀ S ρ, rN ρ ≤ 20000 → okE 2 (sgn a + sgn b) ρ (evE u n G tx z cl B L (.sub a b) S ρ) := fun S ρ h => (a1 S ρ h).bnd (fun q ρ1 e1 l1 h1 => (b1 _ _ h1).bnd (s' := 0) (fun q2 ρ2 e2 l2 h2 => ⟨by show (q ++ q2).length = 2; rw [List.length_append, l1, l2], Nat.le_refl _, h2, by show rK ρ2 + 40 * rN ρ2 ≤ rK ρ2 + 40 * rN ρ2 + 0; omega⟩))
        exact (((ih s (by simp at he; omega)).1 hw.1 S ρ h).bnd (s' := sgn a + sgn b + 1) (fun q ρ1 _ _ h1 => (pr _ _ h1).bnd (s' := 1) (fun q2 ρ2 _ _ h2 => okE.ret h2))).weak (by show _ ≤ sgn s + (sgn a + sgn b) + 1; omega)
      · rename_i i e1 _
        intro S ρ h
        exact ((ih e1 (by simp at he; omega)).1 hw.2 S ρ h).bnd (s' := 1) (fun q ρ1 _ _ h1 => okE.one h1)
      · rename_i i a b _
        intro S ρ h
        have a1 := (ih a (by simp at he; omega)).1 hw.1
        have b1 := (ih b (by simp at he; omega)).1 hw.2
        have pr : ∀ S ρ, rN ρ ≤ 20000 → okE 2 (sgn a + sgn b) ρ (evE u n G tx z cl B L (.sub a b) S ρ) := fun S ρ h => (a1 S ρ h).bnd (fun q ρ1 e1 l1 h1 => (b1 _ _ h1).bnd (s' := 0) (fun q2 ρ2 e2 l2 h2 => ⟨by show (q ++ q2).length = 2; rw [List.length_append, l1, l2], Nat.le_refl _, h2, by show rK ρ2 + 40 * rN ρ2 ≤ rK ρ2 + 40 * rN ρ2 + 0; omega⟩))
        exact (pr S ρ h).bnd (s' := 1) (fun q ρ1 _ _ h1 => okE.fd h1)
      · rename_i i as _
        intro S ρ h
        exact ((ih as (by simp at he; omega)).2 hw.2 S ρ h).bnd (s' := 1) (fun q ρ1 _ _ h1 => (hcl _ _ _ h1).weak (by omega))
      · exact hw.elim
    · intro hw
      unfold wfE at hw
      split at hw
      · intro S ρ h
        exact ⟨rfl, Nat.le_refl _, h, by show rK ρ + 40 * rN ρ ≤ rK ρ + 40 * rN ρ + 0; omega⟩
      · rename_i e1 r _
        intro S ρ h
        exact (((ih e1 (by simp at he; omega)).1 hw.1 S ρ h).bnd (s' := sgn r) (fun q ρ1 e1' l1 h1 => (((ih r (by simp at he; omega)).2 hw.2 _ _ h1).bnd (m' := argc r + 1) (s' := 0) (k := fun q2 ρ2 => .ok (q ++ q2, ρ2)) (fun q2 ρ2 e2 l2 h2 => ⟨by show (q ++ q2).length = argc r + 1; rw [List.length_append, l1, l2]; omega, Nat.le_refl _, h2, by show rK ρ2 + 40 * rN ρ2 ≤ rK ρ2 + 40 * rN ρ2 + 0; omega⟩)).weak (by omega)))
      · exact hw.elim
      all_goals first | exact hw.elim | (rename_i h; cases h)
