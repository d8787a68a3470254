/-! The reference reads a FUNCTION: its PARAMETERS and what follows. -/
def GFr (fi st nd : Nat) (v v' : Mem) : Prop := (∀ c x, c ≠ 38 → (c < 43 ∨ 62 < c ∨ c = 56 ∨ (43 ≤ c ∧ c ≤ 45 ∧ x ≠ fi) ∨ (46 ≤ c ∧ c ≤ 48 ∧ (x < 6 * fi ∨ 6 * fi + 6 ≤ x)) ∨ (49 ≤ c ∧ c < 56 ∧ x < st) ∨ (57 ≤ c ∧ x < nd)) → v' c x = v c x) ∧ (∀ k, (k < 5 ∨ k = 7 ∨ (12 < k ∧ k < 22) ∨ (22 < k ∧ k < 31) ∨ (31 < k ∧ k < 38) ∨ 41 < k) → v' 38 k = v 38 k) ∧ NNr v v'
theorem GFr.trans {fi st nd : Nat} {v v' v'' : Mem} (h : GFr fi st nd v v') (h' : GFr fi st nd v' v'') : GFr fi st nd v v'' := ⟨fun c x a b => (h'.1 c x a b).trans (h.1 c x a b), fun k hk => (h'.2.1 k hk).trans (h.2.1 k hk), h.2.2.trans h'.2.2⟩
theorem GFr.tfr {fi st nd : Nat} {v v' : Mem} (h : TFr fi st nd v v') : GFr fi st nd v v' := ⟨fun c x hc hx => h.1 c x hc (by omega), h.2⟩
theorem GFr.pfr {fi st nd np : Nat} {v v' : Mem} (hn : np < 6) (h : PFr fi np v v') : GFr fi st nd v v' := ⟨fun c x hc hx => h.1 c x hc (by omega) (by omega), fun k hk => h.2.1 k (by omega), h.2.2⟩
/-- the PARAMETERS from number np on -/
def RPs (v : Mem) (u : Nat → Int) (n fi : Nat) : Nat → List (Nat × Int) → Prop
  | _, [] => True
  | np, q :: l => (v 46 (6 * fi + np) = ps u n q.1 ∧ v 47 (6 * fi + np) = ln u n q.1 ∧ v 48 (6 * fi + np) = q.2) ∧ RPs v u n fi (np + 1) l
/-- behind a FUNCTION (PARAMETERS l from number np on): 1; behind a fault: 0 -/
def PoG (Q : Int → Mem → Prop) (v : Mem) (u : Nat → Int) (n fi st nd np : Nat) (l : List (Nat × Int)) (i : Nat) (r : Except Nat (Int × Jvm.Term × Nat × Nat)) : Prop := match r with
  | .error j => ∀ v', FT1 v' u n j → GFr fi st nd v v' → Q 0 v'
  | .ok q => ∀ (v' : Mem) (nd' : Nat), SG v' u n q.2.2.1 q.2.2.2 0 (np + l.length) nd' → GFr fi st nd v v' → v' 43 fi = ((np + l.length : Nat) : Int) → RPs v' u n fi np l → (∀ c k, 46 ≤ c → c ≤ 48 → k < np → v' c (6 * fi + k) = v c (6 * fi + k)) → v' 44 fi = q.1 → RS v' u n q.2.1 st q.2.2.2 nd nd' (v' 45 fi) → nd ≤ nd' → st ≤ q.2.2.2 → q.2.2.2 ≤ 300 → i ≤ q.2.2.1 → nd' + i ≤ nd + q.2.2.1 → Q 1 v'
theorem pars_rr {t : Int} {F : Nat} {u : Nat → Int} {n st fi nd : Nat} {d' : Nat} {Q : Int → Mem → Prop} (hd : 560 ≤ d') (hst : st ≤ 300) (hfi : fi < 20) : ∀ (f j np : Nat) (rp : Except Nat (List (Nat × Int) × Nat)) (v : Mem) (dp sc : Nat), PPar (kd u n) f j np = some rp → SG v u n j st dp sc nd → v 43 fi = np → np ≤ 6 →
    (match rp with
      | .error e => ∀ v', FT1 v' u n e → GFr fi st nd v v' → Q 0 v'
      | .ok q => ∃ r, PTl (kd u n) F q.2 st (np + q.1.length) = some r ∧ PoG Q v u n fi st nd np q.1 j r) →
    LL t (d' + 1) 212 131 [(2, 38), (0, (fi : Int))] [] v Q := by
  intro f
  induction f with
  | zero => intro j np rp v dp sc hp; cases hp
  | succ f ih =>
    intro j np rp v dp sc hp hg hnp hnp6 hq
    have hp : (if kd u n j = 2 ∧ np < 6 then (if kd u n (j + 1) = 58 then (if kd u n (j + 2) = 17 ∨ kd u n (j + 2) = 24 then (if kd u n (j + 3) = 44 then (match PPar (kd u n) f (j + 4) (np + 1) with
      | none => none
      | some (.error e) => some (.error e)
      | some (.ok q) => some (.ok ((j, tyk (kd u n (j + 2))) :: q.1, q.2))) else some (.ok ([(j, tyk (kd u n (j + 2)))], j + 3))) else some (.error (j + 2))) else some (.error (j + 1))) else some (.error j)) = some rp := hp
    refine s_212_131 (par_rr (by omega) hg hfi hnp hnp6 ?_)
    by_cases k1 : kd u n j = 2 ∧ np < 6
    · rw [if_pos k1] at hp ⊢
      by_cases k2 : kd u n (j + 1) = 58
      · rw [if_pos k2] at hp ⊢
        by_cases k3 : kd u n (j + 2) = 17 ∨ kd u n (j + 2) = 24
        · rw [if_pos k3] at hp ⊢
          intro v1 g1 g2 g3 g4 g5 g6
          refine ⟨fun c => absurd c (by decide), fun _ => ?_⟩
          obtain ⟨sg, nb, he1⟩ := g1.1
          refine RR.deep (d := 0 + 5) (is_12 he1.2.1 ?_) (by omega)
          rw [he1.ck]
          by_cases k4 : kd u n (j + 3) = 44
          · rw [decide_eq_true k4]
            rw [if_pos k4] at hp
            refine ⟨fun c => absurd c (by decide), fun _ => RR.deep (d := 0 + 8) (nx_es he1 (by omega) (fun v4 b1 b2 => ?_)) (by omega)⟩
            have hg4 := g1.next he1 (by omega) (by omega) b1 (Nat.le_refl _) (st' := st) (dp' := dp) (sc' := sc) (by rw [b2.2 22 (by omega)]; exact g1.2.2.2.1) (by rw [b2.2 40 (by omega)]; exact g1.2.2.2.2.1) (by rw [b2.2 41 (by omega)]; exact g1.2.2.2.2.2)
            have e4 : ∀ c x, c ≠ 38 → v4 c x = v1 c x := fun c x h => by rw [b2.1 c h]
            have f4 : GFr fi st nd v v4 := (GFr.pfr k1.2 g2).trans (GFr.tfr (TFr.s38 b2))
            have go : LL t (d' + 1) 212 131 [(2, 38), (0, (fi : Int))] [] v4 Q := by
              cases hr : PPar (kd u n) f (j + 4) (np + 1) with
              | none => rw [hr] at hp; cases hp
              | some rr =>
                rw [hr] at hp
                refine ih (j + 4) (np + 1) rr v4 dp sc hr hg4 (by rw [e4 43 fi (by decide)]; exact g3) (by omega) ?_
                cases rr with
                | error e =>
                  have hp : some (Except.error e) = some rp := hp
                  cases hp
                  intro v' a1 a2
                  exact hq v' a1 (f4.trans a2)
                | ok q =>
                  have hp : some (Except.ok ((j, tyk (kd u n (j + 2))) :: q.1, q.2)) = some rp := hp
                  cases hp
                  obtain ⟨r, h1, h2⟩ := hq
                  have el : np + ((j, tyk (kd u n (j + 2))) :: q.1).length = np + 1 + q.1.length := by rw [List.length_cons]; omega
                  dsimp only at h1 h2 ⊢
                  rw [el] at h1
                  refine ⟨r, h1, ?_⟩
                  cases r with
                  | error e => exact fun v' a1 a2 => h2 v' a1 (f4.trans a2)
                  | ok w =>
                    intro v' nd' a1 a2 a3 a4 a5 a6 a7 a8 a9 a10 a11 a12
                    have ec : ∀ c, 46 ≤ c → c ≤ 48 → v' c (6 * fi + np) = v1 c (6 * fi + np) := fun c h h' => by
                      rw [a5 c np h h' (Nat.lt_succ_self _), e4 c _ (by omega)]
                    refine h2 v' nd' (by rw [el]; exact a1) (f4.trans a2) (by rw [el]; exact a3) ⟨⟨?_, ?_, ?_⟩, a4⟩ (fun c k h h' hk => ?_) a6 a7 a8 a9 a10 (by omega) (by omega)
                    · rw [ec 46 (by omega) (by omega)]; exact g4
                    · rw [ec 47 (by omega) (by omega)]; exact g5
                    · rw [ec 48 (by omega) (by omega)]; exact g6
                    · rw [a5 c k h h' (by omega), e4 c _ (by omega)]
                      exact g2.1 c _ (by omega) (by omega) (by omega)
            obtain ⟨sg4, nb4, he4⟩ := hg4.1
            refine s_212_112 (RR.deep (d := 0 + 5) (is_8 he4.2.1 ?_) (by omega))
            refine ⟨fun _ => go, fun _ => ⟨⟨by omega, by omega⟩, fun _ => go, fun c => absurd ?_ c⟩⟩
            rw [Int.toNat_natCast, e4 43 fi (by decide), g3]
            omega
          · rw [decide_eq_false k4]
            rw [if_neg k4] at hp
            have hp : some (Except.ok ([(j, tyk (kd u n (j + 2)))], j + 3)) = some rp := hp
            cases hp
            obtain ⟨r, h1, h2⟩ := hq
            dsimp only [List.length_cons, List.length_nil] at h1 h2
            refine ⟨fun _ => ?_, fun c => absurd rfl c⟩
            rw [Int.toNat_natCast]
            refine tail_rr (F := F) h1 hd g1 hst hfi g3 (by omega) ?_
            cases r with
            | error e => exact fun v' a1 a2 => h2 v' a1 ((GFr.pfr k1.2 g2).trans (GFr.tfr a2))
            | ok w =>
              intro v' nd' a1 a2 a3 a4 a5 a6 a7 a8 a9
              have ec : ∀ c x, 46 ≤ c → c ≤ 48 → v' c x = v1 c x := fun c x h h' => a2.1 c x (by omega) (by omega)
              refine h2 v' nd' a1 ((GFr.pfr k1.2 g2).trans (GFr.tfr a2)) ?_ ⟨⟨?_, ?_, ?_⟩, trivial⟩ (fun c k h h' hk => ?_) a3 a4 a5 a6 a7 (by omega) (by omega)
              · rw [a2.1 43 fi (by decide) (by omega)]; exact g3
              · rw [ec 46 _ (by omega) (by omega)]; exact g4
              · rw [ec 47 _ (by omega) (by omega)]; exact g5
              · rw [ec 48 _ (by omega) (by omega)]; exact g6
              · rw [ec c _ h h']
                exact g2.1 c _ (by omega) (by omega) (by omega)
        · rw [if_neg k3] at hp ⊢
          have hp : some (Except.error (j + 2)) = some rp := hp
          cases hp
          exact fun v' a1 a2 => ⟨fun _ => hq v' a1 (GFr.pfr k1.2 a2), fun c => absurd rfl c⟩
      · rw [if_neg k2] at hp ⊢
        have hp : some (Except.error (j + 1)) = some rp := hp
        cases hp
        exact fun v' a1 a2 => ⟨fun _ => hq v' a1 (GFr.pfr k1.2 a2), fun c => absurd rfl c⟩
    · rw [if_neg k1] at hp ⊢
      have hp : some (Except.error j) = some rp := hp
      cases hp
      intro v' a1 a2
      exact ⟨fun _ => hq v' a1 (GFr.pfr (np := 0) (by omega) (a2 0)), fun c => absurd rfl c⟩
