/-! The faults of NAMES lie in the order of the text. -/
def srt : Nat → Nat → List Nat → Prop
  | a, b, [] => a ≤ b
  | a, b, p :: l => a ≤ p ∧ srt p b l
theorem srt.dn : ∀ {l : List Nat} {a a' b : Nat}, srt a b l → a' ≤ a → srt a' b l := by
  intro l
  cases l with
  | nil => intro a a' b h h'; exact Nat.le_trans h' h
  | cons p l => intro a a' b h h'; exact ⟨Nat.le_trans h' h.1, h.2⟩
theorem srt.up : ∀ {l : List Nat} {a b b' : Nat}, srt a b l → b ≤ b' → srt a b' l := by
  intro l
  induction l with
  | nil => intro a b b' h h'; exact Nat.le_trans h h'
  | cons p l ih => intro a b b' h h'; exact ⟨h.1, ih h.2 h'⟩
theorem srt.app : ∀ {l m : List Nat} {a b c : Nat}, srt a b l → srt b c m → srt a c (l ++ m) := by
  intro l
  induction l with
  | nil => intro m a b c h h'; exact srt.dn h' h
  | cons p l ih => intro m a b c h h'; exact ⟨h.1, ih h.2 h'⟩
theorem srt.le : ∀ {l : List Nat} {a b : Nat}, srt a b l → a ≤ b := by
  intro l
  induction l with
  | nil => intro a b h; exact h
  | cons p l ih => intro a b h; exact Nat.le_trans h.1 (ih h.2)
theorem srt.ifp {c : Prop} [Decidable c] {a b p : Nat} (h : a ≤ p) (h' : p ≤ b) : srt a b (if c then [p] else []) := by
  split
  · exact ⟨h, h'⟩
  · exact Nat.le_trans h h'
theorem srt.ifn {c : Prop} [Decidable c] {a b p : Nat} (h : a ≤ p) (h' : p ≤ b) : srt a b (if c then [] else [p]) := by
  split
  · exact Nat.le_trans h h'
  · exact ⟨h, h'⟩
theorem mn_ge : ∀ (l : List Nat) (a b : Nat), srt a b l → mn (a : Int) l = (a : Int) := by
  intro l
  induction l with
  | nil => intro a b _; rfl
  | cons p l ih =>
    intro a b h
    show mn (if (a : Int) = -1 then (p : Int) else if (p : Int) < (a : Int) then (p : Int) else (a : Int)) l = (a : Int)
    rw [if_neg (by omega), if_neg (by have := h.1; omega)]
    exact ih a b (srt.dn h.2 h.1)
theorem mn_hd {p a b : Nat} {l : List Nat} (h : srt a b (p :: l)) : mn (-1) (p :: l) = (p : Int) := by
  show mn (if (-1 : Int) = -1 then (p : Int) else if (p : Int) < (-1 : Int) then (p : Int) else (-1 : Int)) l = (p : Int)
  rw [if_pos rfl]
  exact mn_ge l p b h.2
theorem ps_mono {b : Nat → Int} {n : Nat} : ∀ (k i : Nat), ps (uB b n) n i ≤ ps (uB b n) n (i + k) := by
  have one : ∀ i, ps (uB b n) n i ≤ ps (uB b n) n (i + 1) := by
    intro i
    have e : ps (uB b n) n (i + 1) = en isBl (uB b n) n (toC (uB b n) n (ps (uB b n) n i)) := rfl
    rw [e]
    rcases Nat.lt_or_eq_of_le (ps_le (b := b) (n := n) i) with h | h
    · have h1 := toC_adv (b := b) h
      have h2 := (en_b (p := isBl) (u := uB b n) h1.2).1
      omega
    · rw [h]
      have e2 : toC (uB b n) n n = n := by
        unfold toC
        rw [word_end]
        rfl
      rw [e2]
      exact (en_b (p := isBl) (u := uB b n) (Nat.le_refl n)).1
  intro k
  induction k with
  | zero => intro i; exact Nat.le_refl _
  | succ k ih => intro i; exact Nat.le_trans (ih i) (one (i + k))
/-- places grow with the words -/
def PM (u : Nat → Int) (n : Nat) : Prop := ∀ i j, i ≤ j → ps u n i ≤ ps u n j
theorem PM.of {b : Nat → Int} {n : Nat} : PM (uB b n) n := fun i j h => by
  obtain ⟨k, rfl⟩ : ∃ k, j = i + k := ⟨j - i, by omega⟩
  exact ps_mono k i
theorem PE_srt {u : Nat → Int} {n : Nat} {G : Fn} {L : Sc} (hp : PM u n) : ∀ (f m : Nat) (x : Jvm.Term) (i sg nb : Nat) (e : Jvm.Term) (i' sg' : Nat), PE (kd u n) f m x i sg nb = some (.ok (e, i', sg')) → (m < 8 ∨ (10 ≤ m ∧ m < 15) ∨ m = 16 ∨ m = 17) → i ≤ i' ∧ ∀ a, srt a (ps u n i) (if 10 ≤ m ∧ m ≤ 16 then nfE u n G L x else []) → srt a (ps u n i') (nfE u n G L e) := by
  intro f
  induction f with
  | zero => intro m x i sg nb e i' sg' h; cases h
  | succ f ih =>
    intro m x i sg nb e i' sg' h hm
    by_cases m5 : m < 5
    · rw [PE_row m5] at h
      rcases bnd_some h with ⟨j, -, er⟩ | ⟨y, i1, s1, h1, h2⟩
      · cases er
      · have a1 := ih _ _ _ _ _ _ _ _ h1 (by omega)
        have a2 := ih _ _ _ _ _ _ _ _ h2 (by omega)
        rw [if_neg (by omega)] at a1
        rw [if_pos (by omega)] at a2
        rw [if_neg (by omega)]
        exact ⟨by omega, fun a ha => a2.2 a (a1.2 a ha)⟩
    by_cases m5 : m = 5
    · subst m5
      rw [PE_5] at h
      rw [if_neg (by omega)]
      split at h
      · split at h
        · cases h
        · rcases bnd_some h with ⟨j, -, er⟩ | ⟨y, i1, s1, h1, h2⟩
          · cases er
          · have a1 := ih _ _ _ _ _ _ _ _ h1 (by omega)
            rw [if_neg (by omega)] at a1
            cases h2
            exact ⟨by omega, fun a ha => a1.2 a (Nat.le_trans ha (hp _ _ (by omega)))⟩
      · have a1 := ih _ _ _ _ _ _ _ _ h (by omega)
        rw [if_neg (by omega)] at a1
        exact a1
    by_cases m6 : m = 6
    · subst m6
      rw [PE_6] at h
      rcases bnd_some h with ⟨j, -, er⟩ | ⟨y, i1, s1, h1, h2⟩
      · cases er
      · have a1 := ih _ _ _ _ _ _ _ _ h1 (by omega)
        have a2 := ih _ _ _ _ _ _ _ _ h2 (by omega)
        rw [if_neg (by omega)] at a1
        rw [if_pos (by omega)] at a2
        rw [if_neg (by omega)]
        exact ⟨by omega, fun a ha => a2.2 a (a1.2 a ha)⟩
    by_cases m7 : m = 7
    · subst m7
      rw [PE_7] at h
      rw [if_neg (by omega)]
      split at h
      · cases h
        exact ⟨by omega, fun a ha => srt.ifp ha (hp _ _ (by omega))⟩
      split at h
      · split at h
        · split at h
          · cases h
          split at h
          · cases h
          split at h
          · cases h
            exact ⟨by omega, fun a ha => srt.app (srt.ifp ha (hp _ _ (by omega))) (Nat.le_refl _)⟩
          · rcases bnd_some h with ⟨j, -, er⟩ | ⟨y, i1, s1, h1, h2⟩
            · cases er
            · have a1 := ih _ _ _ _ _ _ _ _ h1 (by omega)
              rw [if_neg (by omega)] at a1
              split at h2
              · cases h2
                exact ⟨by omega, fun a ha => srt.app (srt.ifp ha (Nat.le_refl _)) (srt.up (a1.2 _ (hp _ _ (by omega))) (hp _ _ (by omega)))⟩
              · cases h2
        · cases h
          exact ⟨by omega, fun a ha => srt.ifp ha (hp _ _ (by omega))⟩
      split at h
      · split at h
        · cases h
        · rcases bnd_some h with ⟨j, -, er⟩ | ⟨y, i1, s1, h1, h2⟩
          · cases er
          · have a1 := ih _ _ _ _ _ _ _ _ h1 (by omega)
            rw [if_neg (by omega)] at a1
            split at h2
            · cases h2
              exact ⟨by omega, fun a ha => srt.up (a1.2 a (Nat.le_trans ha (hp _ _ (by omega)))) (hp _ _ (by omega))⟩
            · cases h2
      split at h
      · split at h
        · cases h
        split at h
        · rcases bnd_some h with ⟨j, -, er⟩ | ⟨y, i1, s1, h1, h2⟩
          · cases er
          · have a1 := ih _ _ _ _ _ _ _ _ h1 (by omega)
            rw [if_neg (by omega)] at a1
            split at h2
            · cases h2
              exact ⟨by omega, fun a ha => srt.up (a1.2 a (Nat.le_trans ha (hp _ _ (by omega)))) (hp _ _ (by omega))⟩
            · cases h2
        · cases h
      split at h
      · split at h
        · cases h
        split at h
        · rcases bnd_some h with ⟨j, -, er⟩ | ⟨y, i1, s1, h1, h2⟩
          · cases er
          · have a1 := ih _ _ _ _ _ _ _ _ h1 (by omega)
            rw [if_neg (by omega)] at a1
            split at h2
            · rcases bnd_some h2 with ⟨j, -, er⟩ | ⟨z, i2, s2, h3, h4⟩
              · cases er
              · have a2 := ih _ _ _ _ _ _ _ _ h3 (by omega)
                rw [if_neg (by omega)] at a2
                split at h4
                · cases h4
                  exact ⟨by omega, fun a ha => srt.app (a1.2 a (Nat.le_trans ha (hp _ _ (by omega)))) (srt.up (a2.2 _ (hp _ _ (by omega))) (hp _ _ (by omega)))⟩
                · cases h4
            · cases h2
        · cases h
      · cases h
    by_cases m15 : 10 ≤ m ∧ m < 15
    · obtain ⟨l, rfl⟩ : ∃ l, m = l + 10 := ⟨m - 10, by omega⟩
      rw [PE_lp (by omega)] at h
      rw [if_pos (by omega)]
      split at h
      · split at h
        · cases h
        · rcases bnd_some h with ⟨j, -, er⟩ | ⟨y, i1, s1, h1, h2⟩
          · cases er
          · have a1 := ih _ _ _ _ _ _ _ _ h1 (by omega)
            rw [if_neg (by omega)] at a1
            have a3 : ∀ a, srt a (ps u n i) (nfE u n G L x) → srt a (ps u n i1) (nfE u n G L (nodeB i x y)) := fun a ha => srt.app ha (a1.2 _ (hp _ _ (by omega)))
            split at h2
            · cases h2
              exact ⟨by omega, a3⟩
            · have a2 := ih _ _ _ _ _ _ _ _ h2 (by omega)
              rw [if_pos (by omega)] at a2
              exact ⟨by omega, fun a ha => a2.2 a (a3 a ha)⟩
      · cases h
        exact ⟨by omega, fun a ha => ha⟩
    by_cases m16 : m = 16
    · subst m16
      rw [PE_16] at h
      rw [if_pos (by omega)]
      split at h
      · split at h
        · cases h
        split at h
        · cases h
        rcases bnd_some h with ⟨j, -, er⟩ | ⟨y, i1, s1, h1, h2⟩
        · cases er
        · have a1 := ih _ _ _ _ _ _ _ _ h1 (by omega)
          rw [if_neg (by omega)] at a1
          split at h2
          · rcases bnd_some h2 with ⟨j, -, er⟩ | ⟨z, i2, s2, h3, h4⟩
            · cases er
            · have a2 := ih _ _ _ _ _ _ _ _ h3 (by omega)
              rw [if_neg (by omega)] at a2
              split at h4
              · have a3 := ih _ _ _ _ _ _ _ _ h4 (by omega)
                rw [if_pos (by omega)] at a3
                exact ⟨by omega, fun a ha => a3.2 a (srt.app ha (srt.app (a1.2 _ (hp _ _ (by omega))) (srt.up (a2.2 _ (hp _ _ (by omega))) (hp _ _ (by omega)))))⟩
              · cases h4
          · split at h2
            · have a3 := ih _ _ _ _ _ _ _ _ h2 (by omega)
              rw [if_pos (by omega)] at a3
              exact ⟨by omega, fun a ha => a3.2 a (srt.app ha (srt.up (a1.2 _ (hp _ _ (by omega))) (hp _ _ (by omega))))⟩
            · cases h2
      · cases h
        exact ⟨by omega, fun a ha => ha⟩
    · have m17 : m = 17 := by omega
      subst m17
      rw [PE_17] at h
      rw [if_neg (by omega)]
      rcases bnd_some h with ⟨j, -, er⟩ | ⟨y, i1, s1, h1, h2⟩
      · cases er
      · have a1 := ih _ _ _ _ _ _ _ _ h1 (by omega)
        rw [if_neg (by omega)] at a1
        split at h2
        · rcases bnd_some h2 with ⟨j, -, er⟩ | ⟨z, i2, s2, h3, h4⟩
          · cases er
          · have a2 := ih _ _ _ _ _ _ _ _ h3 (by omega)
            rw [if_neg (by omega)] at a2
            cases h4
            exact ⟨by omega, fun a ha => srt.app (a1.2 a ha) (a2.2 _ (hp _ _ (by omega)))⟩
        · cases h2
          exact ⟨by omega, fun a ha => srt.app (a1.2 a ha) (Nat.le_refl _)⟩
theorem PS_srt {u : Nat → Int} {n : Nat} {G : Fn} (hp : PM u n) : ∀ (f m i st dp sc : Nat) (q : Jvm.Term × Nat × Nat × Nat), PS (kd u n) f m i st dp sc = some (.ok q) → i ≤ q.2.1 ∧ ∀ L, srt (ps u n i) (ps u n q.2.1) (nfB u n G L q.1) := by
  intro f
  induction f with
  | zero => intro m i st dp sc q h; cases h
  | succ f ih =>
    intro m i st dp sc q h
    match m, h with
    | 0, h =>
      rw [PS_0] at h
      split at h
      · rcases bndS_some h with ⟨j, -, e⟩ | ⟨l, i1, st1, sc1, h1, h2⟩
        · cases e
        · have a1 := ih _ _ _ _ _ _ h1
          cases h2
          exact ⟨Nat.le_trans (by omega) a1.1, fun L => srt.dn (a1.2 L) (hp _ _ (by omega))⟩
      · cases h
    | 1, h =>
      rw [PS_1] at h
      split at h
      · cases h
        exact ⟨Nat.le_succ _, fun L => hp _ _ (Nat.le_succ _)⟩
      · rcases bndS_some h with ⟨j, -, e⟩ | ⟨S, i1, st1, sc1, h1, h2⟩
        · cases e
        · rcases bndS_some h2 with ⟨j, -, e⟩ | ⟨l, i2, st2, sc2, h3, h4⟩
          · cases e
          · have a1 := ih _ _ _ _ _ _ h1
            have a2 := ih _ _ _ _ _ _ h3
            cases h4
            exact ⟨Nat.le_trans a1.1 a2.1, fun L => srt.app (a1.2 L) (a2.2 _)⟩
    | m + 2, h =>
      have h : PS (kd u n) (f + 1) 2 i st dp sc = some (.ok q) := h
      rw [PS_2] at h
      split at h
      · cases h
      have eh : ∀ j e i1 s1, PE (kd u n) f 0 .null j 0 0 = some (.ok (e, i1, s1)) → j ≤ i1 ∧ ∀ L, srt (ps u n j) (ps u n i1) (nfE u n G L e) := fun j e i1 s1 h => by
        refine ⟨(PE_srt (G := G) (L := []) hp f 0 .null j 0 0 e i1 s1 h (by omega)).1, fun L => ?_⟩
        have := (PE_srt (G := G) (L := L) hp f 0 .null j 0 0 e i1 s1 h (by omega)).2
        rw [if_neg (by omega)] at this
        exact this _ (Nat.le_refl _)
      split at h
      · rename_i k19
        split at h
        · split at h
          · rcases bndE_some h with ⟨j, -, e⟩ | ⟨e, i1, s1, h1, h2⟩
            · cases e
            · have a1 := eh _ _ _ _ h1
              split at h2
              · cases h2
                refine ⟨by show i ≤ i1 + 1; omega, fun L => ?_⟩
                show srt (ps u n i) (ps u n (i1 + 1)) (if kd u n i = 19 then (if slt L (vl u n (i + 1)) = -1 then [] else [ps u n (i + 1)]) ++ nfE u n G L e else _)
                rw [if_pos k19]
                exact srt.app (srt.ifn (hp _ _ (by omega)) (hp _ _ (by omega))) (srt.up (a1.2 L) (hp _ _ (by omega)))
              · cases h2
          · cases h
        · cases h
      split at h
      · rename_i k19 k2
        split at h
        · rcases bndE_some h with ⟨j, -, e⟩ | ⟨e, i1, s1, h1, h2⟩
          · cases e
          · have a1 := eh _ _ _ _ h1
            split at h2
            · cases h2
              refine ⟨by show i ≤ i1 + 1; omega, fun L => ?_⟩
              show srt (ps u n i) (ps u n (i1 + 1)) (if kd u n i = 19 then _ else if kd u n i = 2 then (if slt L (vl u n i) = -1 then [ps u n i] else []) ++ nfE u n G L e else _)
              rw [if_neg k19, if_pos k2]
              exact srt.app (srt.ifp (Nat.le_refl _) (hp _ _ (by omega))) (srt.up (a1.2 L) (hp _ _ (by omega)))
            · cases h2
        · cases h
      · rename_i k19 k2
        have key : ∀ (e b c : Jvm.Term) (i1 i2 i3 : Nat), i + 1 ≤ i1 → i1 ≤ i2 → i2 ≤ i3 → (∀ L, srt (ps u n (i + 1)) (ps u n i1) (nfE u n G L e)) → (∀ L, srt (ps u n i1) (ps u n i2) (nfB u n G L b)) → (∀ L, srt (ps u n i2) (ps u n i3) (nfB u n G L c)) → i ≤ i3 ∧ ∀ L, srt (ps u n i) (ps u n i3) (nfB u n G L (stm i e b c)) := by
          intro e b c i1 i2 i3 q1 q2 q3 s1 s2 s3
          refine ⟨by omega, fun L => ?_⟩
          show srt (ps u n i) (ps u n i3) (if kd u n i = 19 then _ else if kd u n i = 2 then _ else nfE u n G L e ++ (nfB u n G L b ++ nfB u n G L c))
          rw [if_neg k19, if_neg k2]
          exact srt.dn (srt.app (s1 L) (srt.app (s2 L) (s3 L))) (hp _ _ (by omega))
        rcases bndE_some h with ⟨j, -, e⟩ | ⟨e, i1, s1, h1, h2⟩
        · cases e
        · have a0 := eh _ _ _ _ h1
          split at h2
          · rcases bndS_some h2 with ⟨j, -, e⟩ | ⟨b, i2, st2, sc2, h3, h4⟩
            · cases e
            · have a1 := ih _ _ _ _ _ _ h3
              split at h4
              · rcases bndS_some h4 with ⟨j, -, e⟩ | ⟨c, i3, st3, sc3, h5, h6⟩
                · cases e
                · have a2 := ih _ _ _ _ _ _ h5
                  cases h6
                  exact key e b c i1 i2 i3 a0.1 a1.1 (Nat.le_trans (Nat.le_succ _) a2.1) a0.2 a1.2 (fun L => srt.dn (a2.2 L) (hp _ _ (Nat.le_succ _)))
              · cases h4
                exact key e b .thrown i1 i2 i2 a0.1 a1.1 (Nat.le_refl _) a0.2 a1.2 (fun L => Nat.le_refl _)
          · split at h2
            · cases h2
              exact key e .null .thrown i1 i1 (i1 + 1) a0.1 (Nat.le_refl _) (Nat.le_succ _) a0.2 (fun L => Nat.le_refl _) (fun L => hp _ _ (Nat.le_succ _))
            · cases h2
theorem PPar_srt {u : Nat → Int} {n : Nat} (hp : PM u n) : ∀ (f j np : Nat) (q : List (Nat × Int) × Nat), PPar (kd u n) f j np = some (.ok q) → j ≤ q.2 ∧ ∀ L, srt (ps u n j) (ps u n q.2) (nfP u n L q.1) := by
  intro f
  induction f with
  | zero => intro j np q h; cases h
  | succ f ih =>
    intro j np q h
    have h : (if kd u n j = 2 ∧ np < 6 then (if kd u n (j + 1) = 58 then (if kd u n (j + 2) = 17 ∨ kd u n (j + 2) = 24 then (if kd u n (j + 3) = 44 then (match PPar (kd u n) f (j + 4) (np + 1) with
      | none => none
      | some (.error e) => some (.error e)
      | some (.ok q) => some (.ok ((j, tyk (kd u n (j + 2))) :: q.1, q.2))) else some (.ok ([(j, tyk (kd u n (j + 2)))], j + 3))) else some (.error (j + 2))) else some (.error (j + 1))) else some (.error j)) = some (Except.ok q) := h
    split at h
    · split at h
      · split at h
        · split at h
          · cases hr : PPar (kd u n) f (j + 4) (np + 1) with
            | none => rw [hr] at h; cases h
            | some r =>
              rw [hr] at h
              match r, hr, h with
              | .error e, hr, h => cases h
              | .ok q', hr, h =>
                have a1 := ih _ _ _ hr
                cases h
                exact ⟨Nat.le_trans (by omega) a1.1, fun L => srt.app (srt.ifn (Nat.le_refl _) (hp j (j + 4) (by omega))) (a1.2 _)⟩
          · cases h
            exact ⟨by show j ≤ j + 3; omega, fun L => srt.app (srt.ifn (Nat.le_refl _) (hp j (j + 3) (by omega))) (Nat.le_refl _)⟩
        · cases h
      · cases h
    · cases h
theorem PFn_srt {u : Nat → Int} {n : Nat} {G : Fn} (hp : PM u n) {F i fi st : Nat} {q : List (Nat × Int) × Int × Jvm.Term × Nat × Nat} (h : PFn (kd u n) F i fi st = some (.ok q)) (fj : Nat) : i ≤ q.2.2.2.1 ∧ srt (ps u n i) (ps u n q.2.2.2.1) (nfF u n G fj (i, q.1, q.2.1, q.2.2.1)) := by
  unfold PFn at h
  split at h
  · split at h
    · split at h
      · have hpar : ∀ (r : Option (Except Nat (List (Nat × Int) × Nat))), r = (if kd u n (i + 3) = 41 then some (.ok ([], i + 3)) else PPar (kd u n) 8 (i + 3) 0) → ∀ q', r = some (.ok q') → i + 3 ≤ q'.2 ∧ ∀ L, srt (ps u n (i + 3)) (ps u n q'.2) (nfP u n L q'.1) := by
          intro r hr q' e
          rw [e] at hr
          split at hr
          · cases hr
            exact ⟨Nat.le_refl _, fun L => Nat.le_refl _⟩
          · exact PPar_srt hp 8 _ _ q' hr.symm
        generalize hr : (if kd u n (i + 3) = 41 then some (Except.ok ([], i + 3)) else PPar (kd u n) 8 (i + 3) 0) = r at h
        match r, hr, h with
        | none, hr, h => cases h
        | some (.error e), hr, h => cases h
        | some (.ok q'), hr, h =>
          have a1 := hpar _ hr.symm q' rfl
          cases ht : PTl (kd u n) F q'.2 st q'.1.length with
          | none =>
            have h : (match PTl (kd u n) F q'.2 st q'.1.length with
              | none => none
              | some (.error e) => some (.error e)
              | some (.ok b) => some (.ok (q'.1, b))) = some (Except.ok q) := h
            rw [ht] at h; cases h
          | some rt =>
            have h : (match PTl (kd u n) F q'.2 st q'.1.length with
              | none => none
              | some (.error e) => some (.error e)
              | some (.ok b) => some (.ok (q'.1, b))) = some (Except.ok q) := h
            rw [ht] at h
            match rt, ht, h with
            | .error e, ht, h => cases h
            | .ok b, ht, h =>
              cases h
              unfold PTl at ht
              split at ht
              · split at ht
                · split at ht
                  · cases hb : PS (kd u n) F 0 (q'.2 + 3) st 0 q'.1.length with
                    | none => rw [hb] at ht; cases ht
                    | some rb =>
                      rw [hb] at ht
                      match rb, hb, ht with
                      | .error e, hb, ht => cases ht
                      | .ok bb, hb, ht =>
                        cases ht
                        have a2 := PS_srt (G := G) hp F 0 _ _ _ _ _ hb
                        refine ⟨by show i ≤ bb.2.1; omega, ?_⟩
                        exact srt.app (srt.ifn (hp i (i + 1) (by omega)) (hp _ (i + 3) (by omega))) (srt.app (a1.2 _) (srt.dn (a2.2 _) (hp _ _ (by omega))))
                  · cases ht
                · cases ht
              · cases ht
      · cases h
    · cases h
  · cases h
theorem PPr_srt {u : Nat → Int} {n : Nat} {G : Fn} (hp : PM u n) {F : Nat} : ∀ (g i fi st : Nat) (l : List FnT), PPr (kd u n) F g i fi st = some (.ok l) → ∀ fj, ∃ b, srt (ps u n i) b (nfG u n G fj l) := by
  intro g
  induction g with
  | zero => intro i fi st l h; cases h
  | succ g ih =>
    intro i fi st l h fj
    have h : (match PFn (kd u n) F i fi st with
      | none => none
      | some (.error e) => some (.error e)
      | some (.ok q) => if kd u n q.2.2.2.1 = 0 then some (.ok [(i, q.1, q.2.1, q.2.2.1)]) else (match PPr (kd u n) F g q.2.2.2.1 (fi + 1) q.2.2.2.2 with
        | none => none
        | some (.error e) => some (.error e)
        | some (.ok l) => some (.ok ((i, q.1, q.2.1, q.2.2.1) :: l)))) = some (Except.ok l) := h
    cases hf : PFn (kd u n) F i fi st with
    | none => rw [hf] at h; cases h
    | some r =>
      rw [hf] at h
      match r, hf, h with
      | .error e, hf, h => cases h
      | .ok q, hf, h =>
        have a1 := PFn_srt (G := G) hp hf fj
        have h : (if kd u n q.2.2.2.1 = 0 then some (.ok [(i, q.1, q.2.1, q.2.2.1)]) else (match PPr (kd u n) F g q.2.2.2.1 (fi + 1) q.2.2.2.2 with
          | none => none
          | some (.error e) => some (.error e)
          | some (.ok l) => some (.ok ((i, q.1, q.2.1, q.2.2.1) :: l)))) = some (Except.ok l) := h
        split at h
        · cases h
          exact ⟨_, srt.app a1.2 (Nat.le_refl _)⟩
        · cases hr : PPr (kd u n) F g q.2.2.2.1 (fi + 1) q.2.2.2.2 with
          | none => rw [hr] at h; cases h
          | some r =>
            rw [hr] at h
            match r, hr, h with
            | .error e, hr, h => cases h
            | .ok l', hr, h =>
              obtain ⟨b, hb⟩ := ih _ _ _ _ hr (fj + 1)
              cases h
              exact ⟨b, srt.app a1.2 hb⟩
