/-! The reference: the NAMES of S. -/
/-- how many locals are in scope as each let begins -/
def scN (K : Nat → Int) : Nat → Jvm.Term → Prop
  | sc, .sub (.elem (.arg i) (.sub _ (.sub b c))) r => (K i = 19 → sc < 30) ∧ scN K sc b ∧ scN K sc c ∧ scN K (if K i = 19 then sc + 1 else sc) r
  | _, _ => True
theorem PS_scN {K : Nat → Int} : ∀ (f m i st dp sc : Nat) (q : Jvm.Term × Nat × Nat × Nat), PS K f m i st dp sc = some (.ok q) → scN K sc (if m < 2 then q.1 else .sub q.1 .null) ∧ (2 ≤ m → (∃ e b c, q.1 = stm i e b c) ∧ q.2.2.2 = (if K i = 19 then sc + 1 else sc)) := by
  intro f
  induction f with
  | zero => intro m i st dp sc q h; cases h
  | succ f ih =>
    intro m i st dp sc q h
    match m, h with
    | 0, h =>
      rw [PS_0] at h
      split at h
      · rcases bndS_some h with ⟨j, -, e⟩ | ⟨l, i1, st1, sc1, h1, h2⟩
        · cases e
        · have a1 := (ih 1 _ _ _ _ _ h1).1
          cases h2
          exact ⟨a1, fun h => by omega⟩
      · cases h
    | 1, h =>
      rw [PS_1] at h
      split at h
      · cases h
        exact ⟨trivial, fun h => by omega⟩
      · rcases bndS_some h with ⟨j, -, e⟩ | ⟨S, i1, st1, sc1, h1, h2⟩
        · cases e
        · rcases bndS_some h2 with ⟨j, -, e⟩ | ⟨l, i2, st2, sc2, h3, h4⟩
          · cases e
          · have a1 := ih 2 _ _ _ _ _ h1
            have a2 : scN K sc1 l := (ih 1 _ _ _ _ _ h3).1
            cases h4
            refine ⟨?_, fun h => by omega⟩
            obtain ⟨⟨e, b, c, e1⟩, e2⟩ := a1.2 (Nat.le_refl _)
            dsimp only at e1 e2
            subst e1
            have a1 : (K i = 19 → sc < 30) ∧ scN K sc b ∧ scN K sc c ∧ scN K (if K i = 19 then sc + 1 else sc) .null := a1.1
            rw [e2] at a2
            exact ⟨a1.1, a1.2.1, a1.2.2.1, a2⟩
    | m + 2, h =>
      have h : PS K (f + 1) 2 i st dp sc = some (.ok q) := h
      rw [if_neg (by omega)]
      rw [PS_2] at h
      split at h
      · cases h
      split at h
      · rename_i k19
        split at h
        · rename_i k2
          split at h
          · rcases bndE_some h with ⟨j, -, e⟩ | ⟨e, i1, s1, h1, h2⟩
            · cases e
            · split at h2
              · cases h2
                exact ⟨⟨fun _ => k2.2, trivial, trivial, trivial⟩, fun _ => ⟨⟨_, _, _, rfl⟩, by rw [if_pos k19]⟩⟩
              · cases h2
          · cases h
        · cases h
      split at h
      · rename_i k19 k2
        split at h
        · rcases bndE_some h with ⟨j, -, e⟩ | ⟨e, i1, s1, h1, h2⟩
          · cases e
          · split at h2
            · cases h2
              exact ⟨⟨fun h => absurd h k19, trivial, trivial, trivial⟩, fun _ => ⟨⟨_, _, _, rfl⟩, by rw [if_neg k19]⟩⟩
            · cases h2
        · cases h
      · rename_i k19 k2
        rcases bndE_some h with ⟨j, -, e⟩ | ⟨e, i1, s1, h1, h2⟩
        · cases e
        · split at h2
          · rcases bndS_some h2 with ⟨j, -, e⟩ | ⟨b, i2, st2, sc2, h3, h4⟩
            · cases e
            · have a1 : scN K sc b := (ih 0 _ _ _ _ _ h3).1
              split at h4
              · rcases bndS_some h4 with ⟨j, -, e⟩ | ⟨c, i3, st3, sc3, h5, h6⟩
                · cases e
                · have a2 : scN K sc c := (ih 0 _ _ _ _ _ h5).1
                  cases h6
                  exact ⟨⟨fun h => absurd h k19, a1, a2, trivial⟩, fun _ => ⟨⟨_, _, _, rfl⟩, by rw [if_neg k19]⟩⟩
              · cases h4
                exact ⟨⟨fun h => absurd h k19, a1, trivial, trivial⟩, fun _ => ⟨⟨_, _, _, rfl⟩, by rw [if_neg k19]⟩⟩
          · split at h2
            · cases h2
              exact ⟨⟨fun h => absurd h k19, trivial, trivial, trivial⟩, fun _ => ⟨⟨_, _, _, rfl⟩, by rw [if_neg k19]⟩⟩
            · cases h2
/-- S that stand for a BLOCK, its NAMES resolved -/
def RS2 (v : Mem) (u : Nat → Int) (n : Nat) (G : Fn) : Sc → Jvm.Term → Nat → Nat → Nat → Nat → Int → Prop
  | _, .null, lo, hi, nlo, nhi, x => lo ≤ hi ∧ nlo ≤ nhi ∧ x = -1
  | _, .thrown, lo, hi, nlo, nhi, x => lo ≤ hi ∧ nlo ≤ nhi ∧ x = -1
  | L, .sub (.elem (.arg i) (.sub e (.sub b c))) r, lo, hi, nlo, nhi, x => ∃ m m1 n1 n2 n3 X : Nat, x = lo ∧ lo < m1 ∧ m1 ≤ m ∧ m ≤ hi ∧ nlo ≤ X ∧ X < n1 ∧ n1 ≤ n2 ∧ n2 ≤ n3 ∧ n3 ≤ nhi ∧
      v 49 lo = skd (kd u n i) ∧ (kd u n i = 19 → v 50 lo = ps u n (i + 1) ∧ v 51 lo = ln u n (i + 1) ∧ v 56 lo = (L.length : Nat)) ∧ (kd u n i = 2 → v 56 lo = slt L (vl u n i) ∧ ¬ slt L (vl u n i) = -1) ∧ v 52 lo = X ∧ RN2 v u n G L e nlo n1 X ∧ v 61 X = fstT u n e ∧
      RS2 v u n G L b (lo + 1) m1 n1 n2 (v 53 lo) ∧ RS2 v u n G L c m1 m n2 n3 (v 54 lo) ∧ RS2 v u n G (if kd u n i = 19 then L ++ [(vl u n (i + 1), tyE u n G L e)] else L) r m hi n3 nhi (v 55 lo)
  | _, _, _, _, _, _, _ => False
theorem RS2_same {v v' : Mem} {u : Nat → Int} {n : Nat} {G : Fn} : ∀ (N : Nat) (e : Jvm.Term), SizeOf.sizeOf e < N → ∀ (L : Sc) (lo hi nlo nhi : Nat) (x : Int), (∀ c k, 49 ≤ c → c ≤ 56 → lo ≤ k → k < hi → v' c k = v c k) → (∀ c k, 57 ≤ c → c ≤ 62 → nlo ≤ k → k < nhi → v' c k = v c k) → RS2 v u n G L e lo hi nlo nhi x → RS2 v' u n G L e lo hi nlo nhi x := by
  intro N
  induction N with
  | zero => intro e he; exact absurd he (Nat.not_lt_zero _)
  | succ N ih =>
    intro e he L lo hi nlo nhi x h h' q
    unfold RS2 at q
    split at q
    · unfold RS2; exact q
    · unfold RS2; exact q
    · obtain ⟨m, m1, n1, n2, n3, X, q0, q1, q2, q3, q4, q5, q6, q7, q8, a1, a2, a3, a4, a5, a7, b1, b2, b3⟩ := q
      unfold RS2
      have l1 : lo < hi := by omega
      refine ⟨m, m1, n1, n2, n3, X, q0, q1, q2, q3, q4, q5, q6, q7, q8, ?_, ?_, ?_, ?_, RN2_same _ _ (Nat.lt_succ_self _) _ _ _ (fun c j c1 c2 c3 c4 => h' c j c1 c2 c3 (by omega)) a5, ?_, ?_, ?_, ?_⟩
      · rw [h 49 lo (by omega) (by omega) (by omega) l1]; exact a1
      · rw [h 50 lo (by omega) (by omega) (by omega) l1, h 51 lo (by omega) (by omega) (by omega) l1, h 56 lo (by omega) (by omega) (by omega) l1]; exact a2
      · rw [h 56 lo (by omega) (by omega) (by omega) l1]; exact a3
      · rw [h 52 lo (by omega) (by omega) (by omega) l1]; exact a4
      · rw [h' 61 X (by omega) (by omega) q4 (by omega)]; exact a7
      · rw [h 53 lo (by omega) (by omega) (by omega) l1]
        exact ih _ (by simp at he; omega) _ _ _ _ _ _ (fun c j c1 c2 c3 c4 => h c j c1 c2 (by omega) (by omega)) (fun c j c1 c2 c3 c4 => h' c j c1 c2 (by omega) (by omega)) b1
      · rw [h 54 lo (by omega) (by omega) (by omega) l1]
        exact ih _ (by simp at he; omega) _ _ _ _ _ _ (fun c j c1 c2 c3 c4 => h c j c1 c2 (by omega) (by omega)) (fun c j c1 c2 c3 c4 => h' c j c1 c2 (by omega) (by omega)) b2
      · rw [h 55 lo (by omega) (by omega) (by omega) l1]
        exact ih _ (by simp at he; omega) _ _ _ _ _ _ (fun c j c1 c2 c3 c4 => h c j c1 c2 (by omega) (by omega)) (fun c j c1 c2 c3 c4 => h' c j c1 c2 (by omega) (by omega)) b3
    · exact q.elim
/-- what the NAMES of S change: slots of S lo .. hi - 1, a of nodes nlo .. nhi - 1, rows of the scope from m on -/
def NS (lo hi nlo nhi m : Nat) (v v' : Mem) : Prop := ∀ c k, ¬ (c = 56 ∧ lo ≤ k ∧ k < hi) → ¬ (c = 58 ∧ nlo ≤ k ∧ k < nhi) → ¬ (63 ≤ c ∧ c ≤ 65 ∧ m ≤ k) → ¬ (c = 38 ∧ k = 42) → v' c k = v c k
def NXS (v v' : Mem) : Prop := ∀ c k, c ≠ 56 → c ≠ 58 → ¬ (63 ≤ c ∧ c ≤ 65) → ¬ (c = 38 ∧ (k = 5 ∨ k = 6 ∨ k = 42)) → v' c k = v c k
theorem NS.refl {lo hi nlo nhi m : Nat} (v : Mem) : NS lo hi nlo nhi m v v := fun _ _ _ _ _ _ => rfl
theorem NS.trans {lo hi nlo nhi m lo1 hi1 nlo1 nhi1 m1 lo2 hi2 nlo2 nhi2 m2 : Nat} {v v1 v2 : Mem} (h : NS lo1 hi1 nlo1 nhi1 m1 v v1) (h' : NS lo2 hi2 nlo2 nhi2 m2 v1 v2) (a1 : lo ≤ lo1 ∧ hi1 ≤ hi ∧ nlo ≤ nlo1 ∧ nhi1 ≤ nhi ∧ m ≤ m1) (a2 : lo ≤ lo2 ∧ hi2 ≤ hi ∧ nlo ≤ nlo2 ∧ nhi2 ≤ nhi ∧ m ≤ m2) : NS lo hi nlo nhi m v v2 := fun c k c1 c2 c3 c4 => (h' c k (by omega) (by omega) (by omega) c4).trans (h c k (by omega) (by omega) (by omega) c4)
theorem NS.n58 {nlo nhi lo hi m : Nat} {v v' : Mem} (h : N58 nlo nhi v v') : NS lo hi nlo nhi m v v' := fun c k _ c2 _ _ => h c k c2
theorem NXS.of {lo hi nlo nhi m : Nat} {v v1 v2 : Mem} (h : NS lo hi nlo nhi m v v1) (h' : NXS v1 v2) : NXS v v2 := fun c k c1 c2 c3 c4 => (h' c k c1 c2 c3 c4).trans (h c k (by omega) (by omega) (by omega) (by omega))
theorem NXS.nx {v v' : Mem} (h : NX v v') : NXS v v' := fun c k c1 c2 c3 c4 => h c k c2 (by omega)
theorem NXS.fail {v : Mem} {a b : Int} : NXS v (up (up v 38 5 a) 38 6 b) := NXS.nx NX.fail
theorem RS.ns {v v' : Mem} {u : Nat → Int} {n : Nat} {e : Jvm.Term} {lo hi nlo nhi lo1 hi1 nlo1 nhi1 m1 : Nat} {x : Int} (h : RS v u n e lo hi nlo nhi x) (f : NS lo1 hi1 nlo1 nhi1 m1 v v') (hd : hi ≤ lo1 ∨ hi1 ≤ lo) (hn : nhi ≤ nlo1 ∨ nhi1 ≤ nlo) : RS v' u n e lo hi nlo nhi x := RS_same _ e (Nat.lt_succ_self _) lo hi nlo nhi x (fun c k _ _ h3 h4 => f c k (by omega) (by omega) (by omega) (by omega)) (fun c k _ _ h3 h4 => f c k (by omega) (by omega) (by omega) (by omega)) h
theorem RS2.ns {v v' : Mem} {u : Nat → Int} {n : Nat} {G : Fn} {L : Sc} {e : Jvm.Term} {lo hi nlo nhi lo1 hi1 nlo1 nhi1 m1 : Nat} {x : Int} (h : RS2 v u n G L e lo hi nlo nhi x) (f : NS lo1 hi1 nlo1 nhi1 m1 v v') (hd : hi ≤ lo1 ∨ hi1 ≤ lo) (hn : nhi ≤ nlo1 ∨ nhi1 ≤ nlo) : RS2 v' u n G L e lo hi nlo nhi x := RS2_same _ e (Nat.lt_succ_self _) L lo hi nlo nhi x (fun c k _ _ h3 h4 => f c k (by omega) (by omega) (by omega) (by omega)) (fun c k _ _ h3 h4 => f c k (by omega) (by omega) (by omega) (by omega)) h
theorem RN2.ns {v v' : Mem} {u : Nat → Int} {n : Nat} {G : Fn} {L : Sc} {e : Jvm.Term} {lo hi lo1 hi1 nlo1 nhi1 m1 : Nat} {x : Int} (h : RN2 v u n G L e lo hi x) (f : NS lo1 hi1 nlo1 nhi1 m1 v v') (hn : hi ≤ nlo1 ∨ nhi1 ≤ lo) : RN2 v' u n G L e lo hi x := RN2_same _ e (Nat.lt_succ_self _) lo hi x (fun c k _ _ h3 h4 => f c k (by omega) (by omega) (by omega) (by omega)) h
theorem NC.ns {v v' : Mem} {u : Nat → Int} {n : Nat} {G : Fn} {L : Sc} {lo hi nlo nhi m : Nat} (h : NC v u n G L) (f : NS lo hi nlo nhi m v v') (hm : L.length ≤ m) (h42 : v' 38 42 = (L.length : Nat)) : NC v' u n G L := by
  obtain ⟨h1, h2, ⟨h3, h4, W, h5, h6⟩, ⟨h7, h8, h9, h10⟩⟩ := h
  have e : ∀ c, (40 ≤ c ∧ c ≤ 43) → v' c = v c := fun c hc => funext fun k => f c k (by omega) (by omega) (by omega) (by omega)
  refine ⟨by unfold TXT at *; rw [e 40 (by omega)]; exact h1, by rw [e 40 (by omega)]; exact h2, ⟨h42, h4, W, fun k hk => ?_, h6⟩, ⟨by rw [f 38 13 (by omega) (by omega) (by omega) (by omega)]; exact h7, h8, ?_, by rw [e 43 (by omega)]; exact h10⟩⟩
  · rw [f 63 k (by omega) (by omega) (by omega) (by omega), f 64 k (by omega) (by omega) (by omega) (by omega)]
    exact h5 k hk
  · obtain ⟨W', w1, w2⟩ := h9
    refine ⟨W', ?_, w2⟩
    unfold NR at *
    rw [e 41 (by omega), e 42 (by omega)]
    exact w1
/-- a local more -/
theorem NC.enter {v : Mem} {u : Nat → Int} {n j : Nat} {G : Fn} {L : Sc} {ty : Int} (h : NC v u n G L) (hl : L.length < 30) (hj : kd u n j = 2) (a b : Int) (ha : a = (ps u n j : Nat)) (hb : b = ln u n j) (z : Int) : NC (up (up (up (up v 63 L.length a) 64 L.length b) 65 L.length z) 38 42 ((L.length + 1 : Nat) : Int)) u n G (L ++ [(vl u n j, ty)]) := by
  obtain ⟨h1, h2, ⟨h3, h4, W, h5, h6⟩, ⟨h7, h8, h9, h10⟩⟩ := h
  have ll : (L ++ [(vl u n j, ty)]).length = L.length + 1 := by rw [List.length_append]; rfl
  refine ⟨h1, h2, ⟨by rw [up_k, ll], by rw [ll]; omega, fun k => if k = L.length then j else W k, fun k hk => ?_, fun k hk => ?_⟩, ⟨h7, h8, h9, h10⟩⟩
  · rw [ll] at hk
    by_cases e : k = L.length
    · subst e
      dsimp only
      rw [if_pos rfl]
      refine ⟨?_, ?_, hj⟩
      · rw [up_ne (by decide), up_ne (by decide), up_ne (by decide), up_k]; exact ha
      · rw [up_ne (by decide), up_ne (by decide), up_k]; exact hb
    · dsimp only
      rw [if_neg e]
      have := h5 k (by omega)
      rw [up_ne (by decide), up_ne (by decide), up_ne (by decide), up_nk e, up_ne (by decide), up_ne (by decide), up_nk e, up_ne (by decide)]
      exact this
  · rw [ll] at hk
    by_cases e : k = L.length
    · subst e
      dsimp only
      rw [if_pos rfl, gd2]
    · dsimp only
      rw [if_neg e, gd1 (by omega)]
      exact h6 k (by omega)
