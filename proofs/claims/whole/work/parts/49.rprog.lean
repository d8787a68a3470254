/-! The reference reads a PROGRAM. -/
theorem PPar_len {K : Nat → Int} : ∀ (f j np : Nat) (q : List (Nat × Int) × Nat), PPar K f j np = some (.ok q) → np + q.1.length ≤ 6 := by
  intro f
  induction f with
  | zero => intro j np q h; cases h
  | succ f ih =>
    intro j np q h
    unfold PPar at h
    split at h
    · rename_i h1
      split at h
      · split at h
        · split at h
          · cases hr : PPar K f (j + 4) (np + 1) with
            | none => rw [hr] at h; cases h
            | some rr =>
              rw [hr] at h
              cases rr with
              | error e => cases h
              | ok w =>
                cases h
                have := ih _ _ _ hr
                show np + (w.1.length + 1) ≤ 6
                omega
          · cases h
            show np + 1 ≤ 6
            omega
        · cases h
      · cases h
    · cases h
theorem PFn_ok {K : Nat → Int} {F i fi st : Nat} {q : List (Nat × Int) × Int × Jvm.Term × Nat × Nat} (h : PFn K F i fi st = some (.ok q)) : fi < 20 ∧ q.1.length ≤ 6 := by
  unfold PFn at h
  split at h
  · rename_i h1
    refine ⟨h1.2, ?_⟩
    split at h
    · split at h
      · split at h
        · cases h
        · cases h
        · rename_i w hw
          have hl : w.1.length ≤ 6 := by
            split at hw
            · cases hw; show (0 : Nat) ≤ 6; omega
            · have := PPar_len _ _ _ _ hw
              omega
          split at h
          · cases h
          · cases h
          · cases h; exact hl
      · cases h
    · cases h
  · cases h
theorem RPs_same {v v' : Mem} {u : Nat → Int} {n fi : Nat} : ∀ (l : List (Nat × Int)) (np : Nat), np + l.length ≤ 6 → (∀ c x, 46 ≤ c → c ≤ 48 → x < 6 * (fi + 1) → v' c x = v c x) → RPs v u n fi np l → RPs v' u n fi np l := by
  intro l
  induction l with
  | nil => intro np _ _ _; exact trivial
  | cons q l ih =>
    intro np hl h hr
    have hl : np + (l.length + 1) ≤ 6 := hl
    obtain ⟨⟨a1, a2, a3⟩, a4⟩ := hr
    refine ⟨⟨?_, ?_, ?_⟩, ih (np + 1) (by omega) h a4⟩
    · rw [h 46 _ (by omega) (by omega) (by omega)]; exact a1
    · rw [h 47 _ (by omega) (by omega) (by omega)]; exact a2
    · rw [h 48 _ (by omega) (by omega) (by omega)]; exact a3
theorem RF1.same {v v' : Mem} {u : Nat → Int} {n i : Nat} {pl : List (Nat × Int)} {ty : Int} {b : Jvm.Term} {fi st st' nd nd' : Nat} (q : RF1 v u n i pl ty b fi st st' nd nd') (hl : pl.length ≤ 6) (h : FFr (fi + 1) st' nd' v v') : RF1 v' u n i pl ty b fi st st' nd nd' := by
  obtain ⟨a1, a2, a3, a4, a5, a6⟩ := q
  have e : ∀ c, 41 ≤ c → c ≤ 45 → v' c fi = v c fi := fun c h1 h2 => h.1 c fi (by omega) (by omega)
  refine ⟨by rw [e 41 (by omega) (by omega)]; exact a1, by rw [e 42 (by omega) (by omega)]; exact a2, by rw [e 43 (by omega) (by omega)]; exact a3, by rw [e 44 (by omega) (by omega)]; exact a4, RPs_same pl 0 (by omega) (fun c x h1 h2 h3 => h.1 c x (by omega) (by omega)) a5, ?_⟩
  rw [e 45 (by omega) (by omega)]
  exact RS_same _ _ (Nat.lt_succ_self _) _ _ _ _ _ (fun c j c1 c2 c3 c4 => h.1 c j (by omega) (by omega)) (fun c j c1 c2 c3 c4 => h.1 c j (by omega) (by omega)) a6
/-- FUNCTIONS from fi on (S from st on, nodes from nd on) up to fi', st', nd' stand for these -/
def RPr (v : Mem) (u : Nat → Int) (n : Nat) : List (Nat × List (Nat × Int) × Int × Jvm.Term) → Nat → Nat → Nat → Nat → Nat → Nat → Prop
  | [], fi, st, nd, fi', st', nd' => fi = fi' ∧ st = st' ∧ nd = nd'
  | q :: l, fi, st, nd, fi', st', nd' => ∃ st1 nd1 : Nat, q.2.1.length ≤ 6 ∧ RF1 v u n q.1 q.2.1 q.2.2.1 q.2.2.2 fi st st1 nd nd1 ∧ RPr v u n l (fi + 1) st1 nd1 fi' st' nd'
def PoP (Q : Int → Mem → Prop) (v : Mem) (u : Nat → Int) (n fi st nd : Nat) (r : Except Nat (List (Nat × List (Nat × Int) × Int × Jvm.Term))) : Prop := match r with
  | .error j => ∀ v', FT1 v' u n j → FFr fi st nd v v' → Q 0 v'
  | .ok l => ∀ (v' : Mem) (fi' st' nd' : Nat), RPr v' u n l fi st nd fi' st' nd' → v' 38 13 = fi' → v' 38 22 = st' → v' 38 31 = nd' → v' 38 5 = 0 → fi' ≤ 20 → st' ≤ 300 → nd' ≤ 3200 → FFr fi st nd v v' → Q 0 v'
theorem prog_lp {t : Int} {F : Nat} {u : Nat → Int} {n d' : Nat} {Q : Int → Mem → Prop} (hd : 561 ≤ d') : ∀ (g i fi st nd : Nat) (r : Except Nat (List (Nat × List (Nat × Int) × Int × Jvm.Term))) (v : Mem) (dp sc : Nat), PPr (kd u n) F g i fi st = some r → SG v u n i st dp sc nd → v 38 13 = fi → fi ≤ 20 → st ≤ 300 → PoP Q v u n fi st nd r → LL t (d' + 1) 214 43 [(2, 38)] [] v Q := by
  intro g
  induction g with
  | zero => intro i fi st nd r v dp sc hp; cases hp
  | succ g ih =>
    intro i fi st nd r v dp sc hp hg h13 hfi hst hq
    unfold PPr at hp
    refine w_214_43 ?_
    cases hF : PFn (kd u n) F i fi st with
    | none => rw [hF] at hp; cases hp
    | some rf =>
      rw [hF] at hp
      refine fn_rr (F := F) hF hd hg h13 hfi hst ?_
      cases rf with
      | error e =>
        have hp : some (Except.error e) = some r := hp
        cases hp
        exact fun v' a1 a2 => ⟨fun _ => hq v' a1 a2, fun c => absurd rfl c⟩
      | ok q =>
        obtain ⟨hlt, hlen⟩ := PFn_ok hF
        intro v1 nd1 dp1 sc1 a1 a2 a3 a4 a5 a6 a7 a8 a9
        dsimp only at hp
        obtain ⟨sg, nb, he⟩ := a1.1
        refine ⟨fun c => absurd c (by decide), fun _ => ?_⟩
        rw [he.kind]
        refine ⟨fun c => ?_, fun c => ?_⟩
        · have k0 : kd u n q.2.2.2.1 = 0 := (rk_c (kd_k u n _) (by decide)).mp c
          rw [if_pos k0] at hp
          cases hp
          have hps := he.2.1.2.2.1
          have hn := he.2.1.2.1.1
          have h9 := a1.2.1
          have h10 := a1.2.2.1
          refine hq v1 (fi + 1) q.2.2.2.2 nd1 ⟨q.2.2.2.2, nd1, hlen, a4, rfl, rfl, rfl⟩ a2 a1.2.2.2.1 he.2.2.2.2.1 he.2.2.2.2.2 (by omega) a7 (by omega) a3
        · have k0 : ¬ kd u n q.2.2.2.1 = 0 := fun h => c ((rk_c (kd_k u n _) (by decide)).mpr h)
          rw [if_neg k0] at hp
          cases hP : PPr (kd u n) F g q.2.2.2.1 (fi + 1) q.2.2.2.2 with
          | none => rw [hP] at hp; cases hp
          | some rp =>
            rw [hP] at hp
            refine ih q.2.2.2.1 (fi + 1) q.2.2.2.2 nd1 rp v1 dp1 sc1 hP a1 a2 (by omega) a7 ?_
            cases rp with
            | error e =>
              have hp : some (Except.error e) = some r := hp
              cases hp
              exact fun v' b1 b2 => hq v' b1 (a3.trans b2 (by omega) a6 a5)
            | ok l =>
              have hp : some (Except.ok ((i, q.1, q.2.1, q.2.2.1) :: l)) = some r := hp
              cases hp
              intro v' fi' st' nd' b1 b2 b3 b4 b5 b6 b7 b8 b9
              exact hq v' fi' st' nd' ⟨q.2.2.2.2, nd1, hlen, a4.same hlen b9, b1⟩ b2 b3 b4 b5 b6 b7 b8 (a3.trans b9 (by omega) a6 a5)
