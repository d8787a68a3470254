/-! The class does what an E says. -/
theorem word_qt {b : Nat → Int} {n i : Nat} (hi : i ≤ n) (h : (wordAt (uB b n) n i).1 = 4) : ((i + 1 : Nat) : Int) + (wordAt (uB b n) n i).2.2 ≤ (n : Int) ∧ 0 ≤ (wordAt (uB b n) n i).2.2 := by
  unfold wordAt at h ⊢
  generalize hu : uB b n = u at h ⊢
  by_cases c0 : u i < 0
  · rw [if_pos c0] at h
    dsimp only at h; omega
  rw [if_neg c0] at h ⊢
  by_cases c1 : isLt (u i) = true
  · rw [if_pos c1] at h ⊢
    by_cases c2 : en isNm u n i - i ≤ 12
    · rw [if_pos c2] at h
      dsimp only at h
      rcases kwK_or (segU u i (en isNm u n i - i)) with g | g
      · omega
      · omega
    · rw [if_neg c2] at h
      dsimp only at h; omega
  rw [if_neg c1] at h ⊢
  by_cases c3 : isDg (u i) = true
  · rw [if_pos c3] at h
    by_cases c4 : numA u 0 i (en isDg u n i - i) ≤ 2147483647
    · rw [if_pos c4] at h
      exact absurd h (by show ¬ (3 : Int) = 4; decide)
    · rw [if_neg c4] at h
      dsimp only at h; omega
  rw [if_neg c3] at h ⊢
  by_cases c5 : u i = 34
  · rw [if_pos c5] at h ⊢
    by_cases c6 : u (en isQt u n (i + 1)) = 34 ∧ en isQt u n (i + 1) - i - 1 ≤ 100
    · rw [if_pos c6]
      have hlt : en isQt u n (i + 1) < n := Classical.byContradiction (fun c => by
        have := uB_out (b := b) (n := n) (k := en isQt u n (i + 1)) (by omega)
        rw [hu, c6.1] at this
        exact absurd this (by decide))
      have hin : i < n := Classical.byContradiction (fun c => by
        have := uB_out (b := b) (n := n) (k := i) (by omega)
        rw [hu] at this
        omega)
      have ge := (en_b (p := isQt) (u := u) (n := n) (k := i + 1) (by omega)).1
      dsimp only
      omega
    · rw [if_neg c6] at h
      dsimp only at h; omega
  rw [if_neg c5] at h ⊢
  by_cases c7 : isSg (u i) = true
  · rw [if_pos c7] at h
    have h33 : 33 ≤ u i := by
      unfold isSg at c7
      simp at c7
      omega
    by_cases c8 : (u i = 61 ∨ u i = 33 ∨ u i = 60) ∧ u (i + 1) = 61
    · rw [if_pos c8] at h
      dsimp only at h
      omega
    · rw [if_neg c8] at h
      dsimp only at h
      omega
  · rw [if_neg c7] at h
    dsimp only at h; omega
theorem vl_q {u : Nat → Int} {b : Nat → Int} {n i : Nat} (hu : u = uB b n) (hk : kd u n i = 4) : ∃ c : Nat, vl u n i = (c : Int) ∧ ps u n i + 1 + c ≤ n := by
  subst hu
  have q := word_qt (ps_le i) hk
  exact ⟨(vl (uB b n) n i).toNat, by show (wordAt (uB b n) n (ps (uB b n) n i)).2.2 = _; show _ = (((wordAt (uB b n) n (ps (uB b n) n i)).2.2.toNat : Nat) : Int); omega, by show ps (uB b n) n i + 1 + (wordAt (uB b n) n (ps (uB b n) n i)).2.2.toNat ≤ n; omega⟩
def LLc (t : Int) (D i : Nat) (v : Mem) (Q : Int → Mem → Prop) : Prop := LL t (D + 21) 52 68 [(2, 31), (3, 0), (3, 0), (0, (i : Int))] [] v Q
def AtK (v0 : Mem) (pc : Nat) (a : Ac) : Prop := AtC v0 pc a ∧ ∃ N : Nat, v0 8 3 = N ∧ N ≤ 3100 ∧ pc + a.length ≤ N
theorem AtK.app {v0 : Mem} {pc : Nat} {a b : Ac} (h : AtK v0 pc (a ++ b)) : AtK v0 pc a ∧ AtK v0 (pc + a.length) b := by
  obtain ⟨h1, N, h2, h3, h4⟩ := h
  obtain ⟨g1, g2⟩ := (AtC_app a b pc).mp h1
  rw [List.length_append] at h4
  exact ⟨⟨g1, N, h2, h3, by omega⟩, g2, N, h2, h3, by omega⟩
theorem AtK.act {v0 : Mem} {pc : Nat} {x f s : Int} {r : Ac} (h : AtK v0 pc ((x, f, s) :: r)) : actAt v0 pc x f s := by
  obtain ⟨h1, N, h2, h3, h4⟩ := h
  rw [List.length_cons] at h4
  exact ⟨⟨N, h2, h3, by omega⟩, h1.1⟩
theorem AtK.tl {v0 : Mem} {pc : Nat} {x : Int × Int × Int} {r : Ac} (h : AtK v0 pc (x :: r)) : AtK v0 (pc + 1) r := by
  obtain ⟨h1, N, h2, h3, h4⟩ := h
  rw [List.length_cons] at h4
  exact ⟨h1.2, N, h2, h3, by omega⟩
/-- what is to follow: behind pc acts, the act counter within a of 420 a STEP -/
def KX (t : Int) (D : Nat) (v0 : Mem) (n z dp pc : Nat) (FB : List (Nat × Nat)) (S : List Rw) (a : Int) (Q : Int → Mem → Prop) (r : XE) : Prop := match r with
  | .error e => ∀ v', CE v0 z e.1 0 e.2 v' → Q e.1 v'
  | .ok q => ∀ v' i', CM v0 n z dp pc FB (S ++ q.1) q.2 v' → rK q.2 ≤ i' → i' ≤ 420 * rN q.2 + a → LLc t D i' v' Q
theorem act_c {t : Int} {D i : Nat} {a : Int} {v0 v : Mem} {n z dp pc : Nat} {FB : List (Nat × Nat)} {S : List Rw} {ρ : Rho} {Q : Int → Mem → Prop} (k : CM v0 n z dp pc FB S ρ v) (hi : i ≤ 420 * rN ρ + a) (ha : a ≤ 1000) (h : RR t (D + 20) 56 [(2, 31)] v (fun _ v' => LLc t D (i + 1) v' Q)) : LLc t D i v Q := by
  have hN := k.2.2.2.2.1.1
  exact lp_act (by omega) k.2.2.2.1.2.2.2.2.2.2 h
theorem end_c {t : Int} {D i : Nat} {v0 v : Mem} {z : Nat} {k res : Int} {ρ : Rho} {Q : Int → Mem → Prop} (c : CE v0 z k res ρ v) (hk : k ≠ -1) (h : Q k v) : LLc t D i v Q := lp_end c.2.1.2.2.2 hk h
/-- the end of an E: r in the place of T -/
theorem KX.ret {t : Int} {D i : Nat} {a : Int} {v0 v' : Mem} {n z dp pc : Nat} {FB : List (Nat × Nat)} {S : List Rw} {r : Rw} {ρ : Rho} {Q : Int → Mem → Prop} (h : KX t D v0 n z dp pc FB S a Q (rtE S r ρ)) (k : CM v0 n z dp pc FB (S ++ [r]) (wH ρ (gc (S ++ [r]) z0 (rH ρ))) v') (h1 : rK ρ ≤ i) (h2 : i ≤ 420 * rN ρ + a) : LLc t D i v' Q := h v' i k h1 h2
theorem KX.bnd {t : Int} {D : Nat} {a : Int} {v0 : Mem} {n z dp pc : Nat} {FB : List (Nat × Nat)} {S : List Rw} {Q : Int → Mem → Prop} {r : XE} {k : List Rw → Rho → XE} {pc' : Nat} {a' : Int} {S' : List Rw} (h : KX t D v0 n z dp pc FB S a Q (bE r k)) (hk : ∀ q ρ1, r = .ok (q, ρ1) → KX t D v0 n z dp pc FB S a Q (k q ρ1) → ∀ v' i', CM v0 n z dp pc' FB (S' ++ q) ρ1 v' → rK ρ1 ≤ i' → i' ≤ 420 * rN ρ1 + a' → LLc t D i' v' Q) : KX t D v0 n z dp pc' FB S' a' Q r := by
  match r, h with
  | .error e, h => exact h
  | .ok (q, ρ1), h => exact hk q ρ1 rfl h
theorem len1 {q : List Rw} (h : q.length = 1) : q = [g2 q 0] := by
  match q, h with
  | [x], _ => rfl
theorem len2 {q : List Rw} (h : q.length = 2) : q = [g2 q 0, g2 q 1] := by
  match q, h with
  | [x, y], _ => rfl
