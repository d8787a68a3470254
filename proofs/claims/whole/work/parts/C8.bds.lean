/-! What S and calls come to, purely: bounds. -/
/-- how deep S lie within one another, with no more than 40 SIGNS and 8 brackets in an E -/
def bdS : Jvm.Term → Nat → Prop
  | .sub s r, k => bdS s k ∧ bdS r k
  | .elem _ (.sub e (.sub b c)), k => (sgn e ≤ 40 ∧ brk e ≤ 8) ∧ ∃ j, k = j + 1 ∧ bdS b j ∧ bdS c j
  | _, _ => True
theorem PS_bd {K : Nat → Int} : ∀ (f m i st dp sc : Nat) (q : Jvm.Term × Nat × Nat × Nat), PS K f m i st dp sc = some (.ok q) → dp ≤ 8 → bdS q.1 (8 - dp) := by
  intro f
  induction f with
  | zero => intro m i st dp sc q h; cases h
  | succ f ih =>
    intro m i st dp sc q h hd
    match m, h with
    | 0, h =>
      rw [PS_0] at h
      split at h
      · rcases bndS_some h with ⟨j, -, e⟩ | ⟨l, i1, st1, sc1, h1, h2⟩
        · cases e
        · have a1 := ih _ _ _ _ _ _ h1 hd
          cases h2
          exact a1
      · cases h
    | 1, h =>
      rw [PS_1] at h
      split at h
      · cases h
        exact trivial
      · rcases bndS_some h with ⟨j, -, e⟩ | ⟨S, i1, st1, sc1, h1, h2⟩
        · cases e
        · rcases bndS_some h2 with ⟨j, -, e⟩ | ⟨l, i2, st2, sc2, h3, h4⟩
          · cases e
          · cases h4
            exact ⟨ih _ _ _ _ _ _ h1 hd, ih _ _ _ _ _ _ h3 hd⟩
    | m + 2, h =>
      have h : PS K (f + 1) 2 i st dp sc = some (.ok q) := h
      rw [PS_2] at h
      split at h
      · cases h
      rename_i hn
      have hd8 : 8 - dp = (8 - (dp + 1)) + 1 := by omega
      have eh : ∀ j e i1 s1, PE K f 0 .null j 0 0 = some (.ok (e, i1, s1)) → sgn e ≤ 40 ∧ brk e ≤ 8 := fun j e i1 s1 h => by
        have := PE_sgn f 0 .null j 0 0 e i1 s1 h (by omega) (by omega) (by omega)
        rw [if_pos (by omega), if_pos (by omega)] at this
        have q := this.2 (by omega)
        omega
      have one : ∀ j e i1 s1, PE K f 0 .null j 0 0 = some (.ok (e, i1, s1)) → bdS (stm i e .null .thrown) (8 - dp) := fun j e i1 s1 h => ⟨eh j e i1 s1 h, _, hd8, trivial, trivial⟩
      split at h
      · split at h
        · split at h
          · rcases bndE_some h with ⟨j, -, e⟩ | ⟨e, i1, s1, h1, h2⟩
            · cases e
            · split at h2
              · cases h2
                exact one _ _ _ _ h1
              · cases h2
          · cases h
        · cases h
      split at h
      · split at h
        · rcases bndE_some h with ⟨j, -, e⟩ | ⟨e, i1, s1, h1, h2⟩
          · cases e
          · split at h2
            · cases h2
              exact one _ _ _ _ h1
            · cases h2
        · cases h
      · rcases bndE_some h with ⟨j, -, e⟩ | ⟨e, i1, s1, h1, h2⟩
        · cases e
        · split at h2
          · rcases bndS_some h2 with ⟨j, -, e⟩ | ⟨b, i2, st2, sc2, h3, h4⟩
            · cases e
            · have a1 := ih _ _ _ _ _ _ h3 (by omega)
              split at h4
              · rcases bndS_some h4 with ⟨j, -, e⟩ | ⟨c, i3, st3, sc3, h5, h6⟩
                · cases e
                · have a2 := ih _ _ _ _ _ _ h5 (by omega)
                  cases h6
                  exact ⟨eh _ _ _ _ h1, _, hd8, a1, a2⟩
              · cases h4
                exact ⟨eh _ _ _ _ h1, _, hd8, a1, trivial⟩
          · split at h2
            · cases h2
              exact one _ _ _ _ h1
            · cases h2
theorem PFn_PS {K : Nat → Int} {F i fi st : Nat} {q : List (Nat × Int) × Int × Jvm.Term × Nat × Nat} (h : PFn K F i fi st = some (.ok q)) : bdS q.2.2.1 8 := by
  unfold PFn at h
  split at h
  · split at h
    · split at h
      · generalize hr : (if K (i + 3) = 41 then some (Except.ok ([], i + 3)) else PPar K 8 (i + 3) 0) = r at h
        match r, hr, h with
        | none, hr, h => cases h
        | some (.error e), hr, h => cases h
        | some (.ok q'), hr, h =>
          have h : (match PTl K F q'.2 st q'.1.length with
              | none => none
              | some (.error e) => some (.error e)
              | some (.ok b) => some (.ok (q'.1, b))) = some (Except.ok q) := h
          cases ht : PTl K F q'.2 st q'.1.length with
          | none => rw [ht] at h; cases h
          | some rt =>
            rw [ht] at h
            match rt, ht, h with
            | .error e, ht, h => cases h
            | .ok b, ht, h =>
              cases h
              unfold PTl at ht
              split at ht
              · split at ht
                · split at ht
                  · cases hb : PS K F 0 (q'.2 + 3) st 0 q'.1.length with
                    | none => rw [hb] at ht; cases ht
                    | some rb =>
                      rw [hb] at ht
                      match rb, hb, ht with
                      | .error e, hb, ht => cases ht
                      | .ok bb, hb, ht =>
                        cases ht
                        exact PS_bd F 0 _ _ _ _ _ hb (by omega)
                  · cases ht
                · cases ht
              · cases ht
      · cases h
    · cases h
  · cases h
theorem PPr_bd {K : Nat → Int} {F : Nat} : ∀ (g i fi st : Nat) (l : List FnT), PPr K F g i fi st = some (.ok l) → ∀ q ∈ l, bdS q.2.2.2 8 := by
  intro g
  induction g with
  | zero => intro i fi st l h; cases h
  | succ g ih =>
    intro i fi st l h
    have h : (match PFn K F i fi st with
      | none => none
      | some (.error e) => some (.error e)
      | some (.ok q) => if K q.2.2.2.1 = 0 then some (.ok [(i, q.1, q.2.1, q.2.2.1)]) else (match PPr K F g q.2.2.2.1 (fi + 1) q.2.2.2.2 with
        | none => none
        | some (.error e) => some (.error e)
        | some (.ok l) => some (.ok ((i, q.1, q.2.1, q.2.2.1) :: l)))) = some (Except.ok l) := h
    cases hF : PFn K F i fi st with
    | none => rw [hF] at h; cases h
    | some rf =>
      rw [hF] at h
      match rf, hF, h with
      | .error e, hF, h => cases h
      | .ok q, hF, h =>
        have h : (if K q.2.2.2.1 = 0 then some (Except.ok [(i, q.1, q.2.1, q.2.2.1)]) else (match PPr K F g q.2.2.2.1 (fi + 1) q.2.2.2.2 with
          | none => none
          | some (.error e) => some (.error e)
          | some (.ok l) => some (.ok ((i, q.1, q.2.1, q.2.2.1) :: l)))) = some (Except.ok l) := h
        split at h
        · cases h
          intro q' hq'
          rcases List.mem_cons.mp hq' with e | e
          · rw [e]; exact PFn_PS hF
          · cases e
        · cases hr : PPr K F g q.2.2.2.1 (fi + 1) q.2.2.2.2 with
          | none => rw [hr] at h; cases h
          | some r2 =>
            rw [hr] at h
            match r2, hr, h with
            | .error e, hr, h => cases h
            | .ok l2, hr, h =>
              cases h
              intro q' hq'
              rcases List.mem_cons.mp hq' with e | e
              · rw [e]; exact PFn_PS hF
              · exact ih _ _ _ l2 hr q' e
/-- rows of locals: 30 at most -/
theorem mxB_ge {u : Nat → Int} {n : Nat} {G : Fn} : ∀ (N : Nat) (b : Jvm.Term), SizeOf.sizeOf b < N → ∀ m L, m ≤ mxB u n G m L b := by
  intro N
  induction N with
  | zero => intro e he; exact absurd he (Nat.not_lt_zero _)
  | succ N ih =>
    intro b he m L
    unfold mxB
    split
    · rename_i s r
      have a1 := ih s (by simp at he; omega) m L
      have a2 := ih r (by simp at he; omega) (mxB u n G m L s) (scB u n G L s)
      omega
    · rename_i i e b c
      split
      · omega
      · have a1 := ih b (by simp at he; omega) m L
        have a2 := ih c (by simp at he; omega) (mxB u n G m L b) L
        omega
    · exact Nat.le_refl _
theorem scB_mx {u : Nat → Int} {n : Nat} {G : Fn} : ∀ (N : Nat) (b : Jvm.Term), SizeOf.sizeOf b < N → wfS (kd u n) b → ∀ m L, L.length ≤ m → (scB u n G L b).length ≤ mxB u n G m L b := by
  intro N
  induction N with
  | zero => intro e he; exact absurd he (Nat.not_lt_zero _)
  | succ N ih =>
    intro b he hw m L hL
    unfold wfS at hw
    split at hw
    · exact hL
    · exact hL
    · rename_i i e b c r
      obtain ⟨w1, w2, w3, w4, w5, w6, w7, w8, w9⟩ := hw
      show (scB u n G (if kd u n i = 19 then L ++ [(vl u n (i + 1), tyE u n G L e)] else L) r).length ≤ mxB u n G (if kd u n i = 19 then max m (L.length + 1) else mxB u n G (mxB u n G m L b) L c) (if kd u n i = 19 then L ++ [(vl u n (i + 1), tyE u n G L e)] else L) r
      refine ih r (by simp at he; omega) w9 _ _ ?_
      split
      · rw [List.length_append]
        show L.length + 1 ≤ _
        omega
      · have a1 := mxB_ge (u := u) (n := n) (G := G) _ b (Nat.lt_succ_self _) m L
        have a2 := mxB_ge (u := u) (n := n) (G := G) _ c (Nat.lt_succ_self _) (mxB u n G m L b) L
        omega
    · exact hw.elim
theorem mxB_30 {u : Nat → Int} {n : Nat} {G : Fn} : ∀ (N : Nat) (b : Jvm.Term), SizeOf.sizeOf b < N → wfS (kd u n) b → ∀ m L, L.length ≤ 30 → m ≤ 30 → scN (kd u n) L.length b → mxB u n G m L b ≤ 30 := by
  intro N
  induction N with
  | zero => intro e he; exact absurd he (Nat.not_lt_zero _)
  | succ N ih =>
    intro b he hw m L hL hm hs
    unfold wfS at hw
    split at hw
    · exact hm
    · exact hm
    · rename_i i e b c r
      obtain ⟨w1, w2, w3, w4, w5, w6, w7, w8, w9⟩ := hw
      have hs : (kd u n i = 19 → L.length < 30) ∧ scN (kd u n) L.length b ∧ scN (kd u n) L.length c ∧ scN (kd u n) (if kd u n i = 19 then L.length + 1 else L.length) r := hs
      obtain ⟨s1, s2, s3, s4⟩ := hs
      show mxB u n G (if kd u n i = 19 then max m (L.length + 1) else mxB u n G (mxB u n G m L b) L c) (if kd u n i = 19 then L ++ [(vl u n (i + 1), tyE u n G L e)] else L) r ≤ 30
      by_cases c19 : kd u n i = 19
      · rw [if_pos c19] at s4 ⊢
        rw [if_pos c19]
        have := s1 c19
        refine ih r (by simp at he; omega) w9 _ _ (by rw [List.length_append]; show L.length + 1 ≤ 30; omega) (by omega) ?_
        rw [List.length_append]
        exact s4
      · rw [if_neg c19] at s4 ⊢
        rw [if_neg c19]
        exact ih r (by simp at he; omega) w9 _ _ hL (ih c (by simp at he; omega) w8 _ _ hL (ih b (by simp at he; omega) w7 _ _ hL hm s2) s3) s4
    · exact hw.elim
theorem slF_b {u : Nat → Int} {n : Nat} {G : Fn} {q : FnT} (h : wfF (kd u n) q) : q.2.1.length ≤ slF u n G q ∧ slF u n G q ≤ 30 := by
  obtain ⟨w1, w2, w3, w4, w5, w6, w7⟩ := h
  have hl : (scP u n q.2.1).length = q.2.1.length := List.length_map ..
  exact ⟨mxB_ge _ _ (Nat.lt_succ_self _) _ _, mxB_30 _ _ (Nat.lt_succ_self _) w4 _ _ (by omega) (by omega) (by rw [hl]; exact w6)⟩
/-- what an S, or S, come to: STEPS and blocks are bounded, rows stay -/
def oKS (B s : Nat) (S : List Rw) (ρ : Rho) (r : XS) : Prop := match r with
  | .error e => 1 ≤ e.1 ∧ e.1 ≤ 5
  | .ok (true, q, ρ') => (rN ρ ≤ rN ρ' ∧ rN ρ' ≤ 20000 ∧ rK ρ' + 40 * rN ρ ≤ rK ρ + 40 * rN ρ' + s) ∧ q.length = 1
  | .ok (false, q, ρ') => (rN ρ ≤ rN ρ' ∧ rN ρ' ≤ 20000 ∧ rK ρ' + 40 * rN ρ ≤ rK ρ + 40 * rN ρ' + s) ∧ q.length = S.length ∧ q.take B = S.take B
theorem oKS.weak {B s s' : Nat} {S : List Rw} {ρ : Rho} {r : XS} (h : oKS B s S ρ r) (hs : s ≤ s') : oKS B s' S ρ r := by
  match r, h with
  | .error e, h => exact h
  | .ok (true, q, ρ'), h => exact ⟨⟨h.1.1, h.1.2.1, by have := h.1.2.2; omega⟩, h.2⟩
  | .ok (false, q, ρ'), h => exact ⟨⟨h.1.1, h.1.2.1, by have := h.1.2.2; omega⟩, h.2⟩
/-- from a later beginning: dn STEPS and dk blocks more -/
theorem oKS.frm {B s s' : Nat} {S S1 : List Rw} {ρ ρ1 : Rho} {r : XS} (h : oKS B s S1 ρ1 r) (h1 : rN ρ ≤ rN ρ1) (h2 : rK ρ1 + 40 * rN ρ + s ≤ rK ρ + 40 * rN ρ1 + s') (h3 : S1.length = S.length ∧ S1.take B = S.take B) : oKS B s' S ρ r := by
  match r, h with
  | .error e, h => exact h
  | .ok (true, q, ρ'), h =>
    obtain ⟨⟨a1, a2, a3⟩, a4⟩ := h
    exact ⟨⟨by omega, a2, by omega⟩, a4⟩
  | .ok (false, q, ρ'), h =>
    obtain ⟨⟨a1, a2, a3⟩, a4, a5⟩ := h
    exact ⟨⟨by omega, a2, by omega⟩, a4.trans h3.1, a5.trans h3.2⟩
theorem oKS.bnd {B s s' : Nat} {S : List Rw} {ρ : Rho} {r : XS} {k : List Rw → Rho → XS} (h : oKS B s S ρ r) (hk : ∀ S1 ρ1, r = .ok (false, S1, ρ1) → rN ρ1 ≤ 20000 → oKS B s' S1 ρ1 (k S1 ρ1)) : oKS B (s + s') S ρ (bS r k) := by
  match r, h with
  | .error e, h => exact h
  | .ok (true, q, ρ'), h => exact ⟨⟨h.1.1, h.1.2.1, by have := h.1.2.2; omega⟩, h.2⟩
  | .ok (false, q, ρ'), h =>
    have h2 : oKS B s' q ρ' (k q ρ') := hk q ρ' rfl h.1.2.1
    have h1 : oKS B s S ρ (.ok (false, q, ρ')) := h
    obtain ⟨⟨a1, a2, a3⟩, a4⟩ := h1
    exact h2.frm a1 (by omega) a4
theorem oKS.er {B s : Nat} {S : List Rw} {ρ ρ' : Rho} {k : Int} (h1 : 1 ≤ k) (h2 : k ≤ 5) : oKS B s S ρ (.error (k, ρ')) := ⟨h1, h2⟩
theorem ok_okW {B s : Nat} {S S1 : List Rw} {ρ : Rho} (h : rN ρ ≤ 20000) (h3 : S1.length = S.length ∧ S1.take B = S.take B) : oKS B s S ρ (okW S1 ρ) := ⟨⟨Nat.le_refl _, h, by show rK ρ + 40 * rN ρ ≤ rK ρ + 40 * rN ρ + s; omega⟩, h3⟩
theorem ok_bES {B m s s' : Nat} {S : List Rw} {ρ : Rho} {r : XE} {k : List Rw → Rho → XS} (h : okE m s ρ r) (hk : ∀ q ρ1, r = .ok (q, ρ1) → q.length = m → rN ρ1 ≤ 20000 → oKS B s' S ρ1 (k q ρ1)) : oKS B (s + s') S ρ (bES r k) := by
  match r, h with
  | .error e, h => exact h
  | .ok (q, ρ1), h =>
    obtain ⟨h1, h2, h3, h4⟩ := h
    have h2 : rN ρ ≤ rN ρ1 := h2
    have h4 : rK ρ1 + 40 * rN ρ ≤ rK ρ + 40 * rN ρ1 + s := h4
    exact (hk q ρ1 rfl h1 h3).frm h2 (by omega) ⟨rfl, rfl⟩
/-- a STEP pays for 40 blocks -/
theorem ok_stP {B s : Nat} {S : List Rw} {ρ : Rho} {k : Rho → XS} (h : rN ρ ≤ 20000) (hk : rN ρ + 1 ≤ 20000 → oKS B (s + 40) S (wN ρ (rN ρ + 1)) (k (wN ρ (rN ρ + 1)))) : oKS B s S ρ (stP ρ k) := by
  unfold stP
  split
  · exact oKS.er (by decide) (by decide)
  · exact (hk (by omega)).frm (by show rN ρ ≤ rN ρ + 1; omega) (by show rK ρ + 40 * rN ρ + (s + 40) ≤ rK ρ + 40 * (rN ρ + 1) + s; omega) ⟨rfl, rfl⟩
theorem take_set {B i : Nat} {r : Rw} : ∀ (S : List Rw), B ≤ i → (S.set i r).take B = S.take B := by
  induction B generalizing i with
  | zero => intro S _; rfl
  | succ B ih =>
    intro S h
    match S, i, h with
    | [], _, _ => rfl
    | x :: S, i + 1, h =>
      show x :: (S.set i r).take B = x :: S.take B
      rw [ih S (by omega)]
theorem clrR_len : ∀ (m i : Nat) (S : List Rw), (clrR S i m).length = S.length := by
  intro m
  induction m with
  | zero => intro i S; rfl
  | succ m ih =>
    intro i S
    show (clrR (S.set i (-1, 0, 0)) (i + 1) m).length = _
    rw [ih, List.length_set]
theorem clrR_take {B : Nat} : ∀ (m i : Nat) (S : List Rw), B ≤ i → (clrR S i m).take B = S.take B := by
  intro m
  induction m with
  | zero => intro i S _; rfl
  | succ m ih =>
    intro i S h
    show (clrR (S.set i (-1, 0, 0)) (i + 1) m).take B = _
    rw [ih _ _ (by omega), take_set _ h]
theorem ok_clE {B s : Nat} {L L' : Sc} {S : List Rw} {ρ : Rho} (h : rN ρ ≤ 20000) : oKS B s S ρ (clE B L L' S ρ) := ok_okW h ⟨clrR_len _ _ _, clrR_take _ _ _ (by omega)⟩
theorem ok_tlE {B s m : Nat} {g : Nat → Int} {S : List Rw} {ρ : Rho} (h : rN ρ ≤ 20000) : oKS B s S ρ (tlE S m g ρ) := by
  unfold tlE
  split
  · exact oKS.er (by decide) (by decide)
  · exact ⟨⟨Nat.le_refl _, h, by show rK ρ + 40 * rN ρ ≤ rK ρ + 40 * rN ρ + s; omega⟩, rfl, rfl⟩
theorem whl_ok {B : Nat} {c : List Rw → Rho → XE} {b : List Rw → Rho → XS} (hc : ∀ S ρ, rN ρ ≤ 20000 → okE 1 40 ρ (c S ρ)) (hb : ∀ S ρ, rN ρ ≤ 20000 → oKS B 0 S ρ (b S ρ)) : ∀ (k : Nat) (S : List Rw) (ρ : Rho), rN ρ ≤ 20000 → oKS B 40 S ρ (whl (fun S ρ => bES (c S ρ) (fun q ρ1 => .ok (false, q, ρ1))) b k S ρ) := by
  intro k
  induction k with
  | zero => intro S ρ h; exact oKS.er (by decide) (by decide)
  | succ k ih =>
    intro S ρ h
    have hc1 := hc S ρ h
    show oKS B 40 S ρ (bS (bES (c S ρ) (fun q ρ1 => .ok (false, q, ρ1))) (fun q ρ1 => if (g2 q 0).2.1 = 0 then okW S ρ1 else stP (wH ρ1 (gc S z0 (rH ρ1))) (fun ρ2 => bS (b S ρ2) (fun S1 ρ3 => whl (fun S ρ => bES (c S ρ) (fun q ρ1 => .ok (false, q, ρ1))) b k S1 ρ3))))
    match hr : c S ρ, hc1 with
    | .error e, hc1 => exact hc1
    | .ok (q, ρ1), hc1 =>
      obtain ⟨h1, h2, h3, h4⟩ := hc1
      have h2 : rN ρ ≤ rN ρ1 := h2
      have h3 : rN ρ1 ≤ 20000 := h3
      have h4 : rK ρ1 + 40 * rN ρ ≤ rK ρ + 40 * rN ρ1 + 40 := h4
      show oKS B 40 S ρ (if (g2 q 0).2.1 = 0 then okW S ρ1 else stP (wH ρ1 (gc S z0 (rH ρ1))) (fun ρ2 => bS (b S ρ2) (fun S1 ρ3 => whl (fun S ρ => bES (c S ρ) (fun q ρ1 => .ok (false, q, ρ1))) b k S1 ρ3)))
      split
      · exact (ok_okW (s := 0) h3 ⟨rfl, rfl⟩).frm h2 (by omega) ⟨rfl, rfl⟩
      · refine (ok_stP (s := 0) (ρ := wH ρ1 (gc S z0 (rH ρ1))) h3 (fun hn => ?_)).frm (ρ1 := wH ρ1 (gc S z0 (rH ρ1))) h2 (by show rK ρ1 + 40 * rN ρ + 0 ≤ rK ρ + 40 * rN ρ1 + 40; omega) ⟨rfl, rfl⟩
        exact (hb S _ hn).bnd (s' := 40) (fun S1 ρ3 _ h5 => ih S1 ρ3 h5)
theorem evB_ok {u : Nat → Int} {n : Nat} {G : Fn} {tx : Nat → Int} {z : Nat} {cl : XC} {B : Nat} (hcl : ∀ ci S ρ, rN ρ ≤ 20000 → okE 1 0 ρ (cl ci S ρ)) : ∀ (N : Nat) (b : Jvm.Term), SizeOf.sizeOf b < N → wfS (kd u n) b → ∀ k, bdS b k → ∀ L S ρ, rN ρ ≤ 20000 → oKS B 0 S ρ (evB u n G tx z cl B L b S ρ) := by
  intro N
  induction N with
  | zero => intro e he; exact absurd he (Nat.not_lt_zero _)
  | succ N ih =>
    intro b he hw k hd L S ρ h
    unfold wfS at hw
    split at hw
    · exact ⟨⟨Nat.le_refl _, h, by show rK ρ + 40 * rN ρ ≤ rK ρ + 40 * rN ρ + 0; omega⟩, rfl, rfl⟩
    · exact ⟨⟨Nat.le_refl _, h, by show rK ρ + 40 * rN ρ ≤ rK ρ + 40 * rN ρ + 0; omega⟩, rfl, rfl⟩
    · rename_i i e b c r
      obtain ⟨w1, w2, w3, w4, w5, w6, w7, w8, w9⟩ := hw
      have hd : ((sgn e ≤ 40 ∧ brk e ≤ 8) ∧ ∃ j, k = j + 1 ∧ bdS b j ∧ bdS c j) ∧ bdS r k := hd
      obtain ⟨⟨⟨d1, d2⟩, j, d3, d4, d5⟩, d6⟩ := hd
      have hE : ∀ S ρ, rN ρ ≤ 20000 → okE 1 40 ρ (evE u n G tx z cl B L e S ρ) := fun S ρ h => ((evE_ok hcl _ e (Nat.lt_succ_self _)).1 w2 S ρ h).weak d1
      have hBb : ∀ S ρ, rN ρ ≤ 20000 → oKS B 0 S ρ (bS (evB u n G tx z cl B L b S ρ) (fun S1 ρ1 => clE B L (scB u n G L b) S1 ρ1)) := fun S ρ h => (ih b (by simp at he; omega) w7 j d4 L S ρ h).bnd (s' := 0) (fun S1 ρ1 _ h1 => ok_clE h1)
      have hBc : ∀ S ρ, rN ρ ≤ 20000 → oKS B 0 S ρ (bS (evB u n G tx z cl B L c S ρ) (fun S1 ρ1 => clE B L (scB u n G L c) S1 ρ1)) := fun S ρ h => (ih c (by simp at he; omega) w8 j d5 L S ρ h).bnd (s' := 0) (fun S1 ρ1 _ h1 => ok_clE h1)
      show oKS B (0 + 0) S ρ (bS (evB u n G tx z cl B L (.elem (.arg i) (.sub e (.sub b c))) S ρ) (fun S1 ρ1 => evB u n G tx z cl B (scB u n G L (.elem (.arg i) (.sub e (.sub b c)))) r S1 ρ1))
      refine oKS.bnd ?_ (fun S1 ρ1 _ h1 => ih r (by simp at he; omega) w9 k d6 _ S1 ρ1 h1)
      refine ok_stP h (fun hn => ?_)
      by_cases c25 : kd u n i = 25
      · rw [if_pos c25]
        exact whl_ok hE hBb _ _ _ hn
      · rw [if_neg c25]
        refine (ok_bES (s' := 0) (hE S _ hn) (fun q ρ1 _ hq h1 => ?_)).weak (by omega)
        split
        · exact ok_okW h1 ⟨List.length_set .., take_set _ (by omega)⟩
        split
        · exact ok_okW h1 ⟨List.length_set .., take_set _ (by omega)⟩
        split
        · exact ⟨⟨Nat.le_refl _, h1, by show rK ρ1 + 40 * rN ρ1 ≤ rK ρ1 + 40 * rN ρ1 + 0; omega⟩, rfl⟩
        split
        · split
          · exact ok_tlE h1
          · exact ok_tlE h1
        split
        · exact ok_okW h1 ⟨rfl, rfl⟩
        split
        · exact (hBc S (wH ρ1 (gc S z0 (rH ρ1))) h1)
        · exact (hBb S (wH ρ1 (gc S z0 (rH ρ1))) h1)
    · exact hw.elim
theorem evK_ok {u : Nat → Int} {n : Nat} {G : Fn} {tx : Nat → Int} {z : Nat} {cl : XC} {B : Nat} (hcl : ∀ ci S ρ, rN ρ ≤ 20000 → okE 1 0 ρ (cl ci S ρ)) {b : Jvm.Term} (hw : wfS (kd u n) b) {k : Nat} (hd : bdS b k) {L : Sc} {S : List Rw} {ρ : Rho} (h : rN ρ ≤ 20000) : oKS B 0 S ρ (evK u n G tx z cl B L b S ρ) := (evB_ok hcl _ b (Nat.lt_succ_self _) hw k hd L S ρ h).bnd (s' := 0) (fun S1 ρ1 _ h1 => ok_clE h1)
/-- what the grammar says of the FUNCTIONS -/
def fsok (u : Nat → Int) (n : Nat) (l : List FnT) : Prop := ∀ q ∈ l, wfF (kd u n) q ∧ bdS q.2.2.2 8
theorem fsok.get {u : Nat → Int} {n : Nat} {l : List FnT} (h : fsok u n l) (k : Nat) : wfS (kd u n) (l.getD k dfF).2.2.2 ∧ bdS (l.getD k dfF).2.2.2 8 := by
  by_cases c : k < l.length
  · have := h _ (getD_mem (d := dfF) l k c)
    exact ⟨this.1.2.2.2.1, this.2⟩
  · rw [List.getD_eq_getElem?_getD, List.getElem?_eq_none (by omega)]
    exact ⟨trivial, trivial⟩
theorem cal_ok {u : Nat → Int} {n : Nat} {G : Fn} {tx : Nat → Int} {z : Nat} {l : List FnT} (hl : fsok u n l) : ∀ (k : Nat) (ci : Int) (S : List Rw) (ρ : Rho), rN ρ ≤ 20000 → okE 1 0 ρ (cal u n G tx z l k ci S ρ) := by
  intro k
  induction k with
  | zero => intro ci S ρ _; exact okE.er (by decide) (by decide)
  | succ k ih =>
    intro ci S ρ h
    unfold cal
    split
    · exact okE.er (by decide) (by decide)
    · rename_i hn
      have ok := evK_ok (G := G) (tx := tx) (z := z) (B := S.length - (l.getD ci.toNat dfF).2.1.length) (L := scP u n (l.getD ci.toNat dfF).2.1) (S := S ++ zr (slF u n G (l.getD ci.toNat dfF) - (l.getD ci.toNat dfF).2.1.length)) (ρ := wN ρ (rN ρ + 1)) (fun ci S ρ h => ih ci S ρ h) (hl.get ci.toNat).1 (hl.get ci.toNat).2 (by show rN ρ + 1 ≤ 20000; omega)
      generalize hr : evK u n G tx z (cal u n G tx z l k) (S.length - (l.getD ci.toNat dfF).2.1.length) (scP u n (l.getD ci.toNat dfF).2.1) (l.getD ci.toNat dfF).2.2.2 (S ++ zr (slF u n G (l.getD ci.toNat dfF) - (l.getD ci.toNat dfF).2.1.length)) (wN ρ (rN ρ + 1)) = r at ok
      match r, ok with
      | .error e, ok => exact ok
      | .ok (true, q, ρ'), ok =>
        obtain ⟨⟨a1, a2, a3⟩, a4⟩ := ok
        have a1 : rN ρ + 1 ≤ rN ρ' := a1
        have a3 : rK ρ' + 40 * (rN ρ + 1) ≤ rK ρ + 40 * rN ρ' + 0 := a3
        exact ⟨a4, by show rN ρ ≤ rN ρ'; omega, a2, by show rK ρ' + 40 * rN ρ ≤ rK ρ + 40 * rN ρ' + 0; omega⟩
      | .ok (false, q, ρ'), ok =>
        obtain ⟨⟨a1, a2, a3⟩, a4⟩ := ok
        have a1 : rN ρ + 1 ≤ rN ρ' := a1
        have a3 : rK ρ' + 40 * (rN ρ + 1) ≤ rK ρ + 40 * rN ρ' + 0 := a3
        exact ⟨rfl, by show rN ρ ≤ rN ρ'; omega, a2, by show rK ρ' + 40 * rN ρ ≤ rK ρ + 40 * rN ρ' + 0; omega⟩
