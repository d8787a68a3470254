/-! The reference reads S and BLOCK: rows of S, and all together. -/
def PoR (Q : Int → Mem → Prop) (v : Mem) (u : Nat → Int) (n st dp nd i last had : Nat) (L2 : Int) (r : Except Nat (Jvm.Term × Nat × Nat × Nat)) : Prop := match r with
  | .error j => ∀ v', FT1 v' u n j → SFr nd last v v' → Q (-2) v'
  | .ok q => ∀ (v' : Mem) (nd' : Nat) (x : Int), SG v' u n q.2.1 q.2.2.1 dp had nd' → SFr nd last v v' → (∀ c k, 49 ≤ c → c ≤ 55 → k < st → ¬ (c = 55 ∧ k = last) → v' c k = v c k) → v' 55 last = x → RS v' u n q.1 st q.2.2.1 nd nd' x → -1 ≤ x → nd ≤ nd' → st ≤ q.2.2.1 → q.2.2.1 ≤ 300 → i ≤ q.2.1 → nd' + i ≤ nd + q.2.1 → Q L2 v'
def PoR0 (Q : Int → Mem → Prop) (v : Mem) (u : Nat → Int) (n st dp nd i had : Nat) (r : Except Nat (Jvm.Term × Nat × Nat × Nat)) : Prop := match r with
  | .error j => ∀ v', FT1 v' u n j → SFr nd st v v' → Q (-2) v'
  | .ok q => ∀ (v' : Mem) (nd' : Nat) (x : Int), SG v' u n q.2.1 q.2.2.1 dp had nd' → SFr nd st v v' → RS v' u n q.1 st q.2.2.1 nd nd' x → -1 ≤ x → nd ≤ nd' → st ≤ q.2.2.1 → q.2.2.1 ≤ 300 → i ≤ q.2.1 → nd' + i ≤ nd + q.2.1 → Q x v'
def HR (t : Int) (u : Nat → Int) (n f : Nat) : Prop := ∀ (i st dp sc : Nat) (r : Except Nat (Jvm.Term × Nat × Nat × Nat)), PS (kd u n) f 1 i st dp sc = some r → ∀ (d : Nat) (v : Mem) (Q : Int → Mem → Prop) (nd last had : Nat) (L2 : Int), dS dp 4 ≤ d → SG v u n i st (dp + 1) sc nd → st ≤ 300 → sc ≤ 30 → dp ≤ 8 → last < st → v 55 last = -1 → PoR Q v u n st dp nd i last had L2 r → LL t d 207 32 [(2, 38), (0, (had : Int)), (0, L2), (0, (last : Int)), (3, 0)] [] v Q
def HR0 (t : Int) (u : Nat → Int) (n f : Nat) : Prop := ∀ (i st dp sc : Nat) (r : Except Nat (Jvm.Term × Nat × Nat × Nat)), PS (kd u n) f 1 i st dp sc = some r → ∀ (d : Nat) (v : Mem) (Q : Int → Mem → Prop) (nd had : Nat), dS dp 4 ≤ d → SG v u n i st (dp + 1) sc nd → st ≤ 300 → sc ≤ 30 → dp ≤ 8 → PoR0 Q v u n st dp nd i had r → LL t d 207 32 [(2, 38), (0, (had : Int)), (0, (-1)), (0, (-1)), (3, 0)] [] v Q
/-- the } of a BLOCK -/
theorem blk_end {t : Int} {u : Nat → Int} {n i st dp sc nd had d : Nat} {v : Mem} {L2 : Int} {Q : Int → Mem → Prop} (hd : 8 ≤ d) (hdp : dp ≤ 8) (hg : SG v u n i st (dp + 1) sc nd) (hk : kd u n i = 125) (hq : ∀ v', SG v' u n (i + 1) st dp had nd → (∀ c j, c ≠ 38 → v' c j = v c j) → (∀ m k, SFr m k v v') → Q L2 v') : RR t d 189 [(2, 38)] (up (up v 38 40 (w32 ((v 38 40) - 1))) 38 41 (had : Int)) (fun _ v6 => Q L2 v6) := by
  rw [show w32 (v 38 40 - 1) = (dp : Int) by rw [hg.2.2.2.2.1]; exact wNat (by omega) (by omega)]
  have hg1 : SG (up (up v 38 40 (dp : Int)) 38 41 (had : Int)) u n i st dp had nd := hg.upd rfl (fun k hk => by rw [up_nk (by omega), up_nk (by omega)]) hg.2.2.2.1 rfl rfl
  obtain ⟨sg, nb, he⟩ := hg1.1
  refine RR.deep (d := 0 + 8) (nx_es he (by omega) (fun v6 b1 b2 => ?_)) hd
  have hg6 := hg1.next he (by omega) (by omega) b1 (Nat.le_refl _) (st' := st) (dp' := dp) (sc' := had) (by rw [b2.2 22 (by omega)]; exact hg1.2.2.2.1) (by rw [b2.2 40 (by omega)]; exact hg1.2.2.2.2.1) (by rw [b2.2 41 (by omega)]; exact hg1.2.2.2.2.2)
  refine hq v6 hg6 (fun c j h => ?_) (fun m k => ?_)
  · rw [b2.1 c h, up_ne h, up_ne h]
  · exact ((SFr.u38 (by omega)).trans (SFr.u38 (by omega)) (Nat.le_refl _) (Nat.le_refl _)).trans (SFr.efr (EFr.s38 b2)) (Nat.le_refl _) (Nat.le_refl _)
theorem HR_step {t : Int} {u : Nat → Int} {n f : Nat} (hS : HS t u n f) (hR : HR t u n f) : HR t u n (f + 1) := by
  intro i st dp sc r hp d v Q nd last had L2 hd hg hst hsc hdp hl h55 hq
  obtain ⟨d', rfl⟩ : ∃ d', d = d' + 1 := ⟨d - 1, by unfold dS at hd; omega⟩
  have hd20 : 20 ≤ d' := by unfold dS at hd; omega
  rw [PS_1] at hp
  obtain ⟨sg, nb, he⟩ := hg.1
  refine s_207_32 (RR.deep (d := 0 + 5) (is_14 he.2.1 ?_) (by omega))
  rw [he.ck]
  by_cases hk : kd u n i = 125
  · rw [decide_eq_true hk]
    rw [if_pos hk] at hp
    have hp : okQ .null (i + 1) st sc = some r := hp
    cases hp
    refine ⟨fun c => absurd c (by decide), fun _ => blk_end (by omega) hdp hg hk (fun v6 g1 g2 g3 => ?_)⟩
    refine hq v6 nd (-1) g1 (g3 nd last) (fun c k _ _ _ _ => g2 c k (by omega)) (by rw [g2 55 last (by decide)]; exact h55) ?_ (by decide) (Nat.le_refl _) (Nat.le_refl _) hst (by dsimp only; omega) (by dsimp only; omega)
    unfold RS
    exact ⟨Nat.le_refl _, Nat.le_refl _, rfl⟩
  · rw [decide_eq_false hk]
    rw [if_neg hk] at hp
    refine ⟨fun _ => ?_, fun c => absurd rfl c⟩
    rcases bndS_some hp with ⟨j, h1, rfl⟩ | ⟨s, i1, st1, sc1, h1, h2⟩
    · refine hS i st dp sc _ h1 d' v _ nd (by unfold dS at *; omega) hg hst hsc hdp ?_
      intro v3 a1 a2
      exact ⟨fun _ => hq v3 a1 (a2.less (Nat.le_refl _) (by omega)), fun c => absurd (by decide) c⟩
    · refine hS i st dp sc _ h1 d' v _ nd (by unfold dS at *; omega) hg hst hsc hdp ?_
      intro v3 nd1 a1 a2 a3 a4 a5 a6 a7 a8 a9 a10
      dsimp only at a1 a3 a6 a7 a8 a9 a10
      refine ⟨fun c => absurd c int_nn, fun _ => ⟨fun c => absurd c int_nn, fun _ => ⟨⟨by omega, by omega⟩, ?_⟩⟩⟩
      rw [Int.toNat_natCast]
      have hg3 : SG (up v3 55 last (st : Int)) u n i1 st1 (dp + 1) sc1 nd1 := a1.upd rfl (fun k _ => rfl) a1.2.2.2.1 a1.2.2.2.2.1 a1.2.2.2.2.2
      have f3 : SFr nd last v (up v3 55 last (st : Int)) := (a2.less (Nat.le_refl _) (by omega)).trans (SFr.ups (by omega) (Nat.le_refl _)) (Nat.le_refl _) (Nat.le_refl _)
      have w55 : up v3 55 last (st : Int) 55 st = -1 := by rw [upc_ne (by omega)]; exact a4
      rcases bndS_some h2 with ⟨j, h3, rfl⟩ | ⟨l, i2, st2, sc2, h3, h4⟩
      · refine hR i1 st1 dp sc1 _ h3 (d' + 1) _ Q nd1 st had L2 (by unfold dS at *; omega) hg3 a7 a8 hdp a6 w55 ?_
        intro v' b1 b2
        exact hq v' b1 (f3.trans b2 (by omega) (by omega))
      · have h4 : okQ (.sub s l) i2 st2 sc2 = some r := h4
        cases h4
        refine hR i1 st1 dp sc1 _ h3 (d' + 1) _ Q nd1 st had L2 (by unfold dS at *; omega) hg3 a7 a8 hdp a6 w55 ?_
        intro v' nd' x b1 b2 b3 b4 b5 b6 b7 b8 b9 b10 b11
        dsimp only at b1 b5 b8 b9 b10 b11
        refine hq v' nd' st b1 (f3.trans b2 (by omega) (by omega)) (fun c k c1 c2 c3 c4 => ?_) ?_ ?_ (by omega) (by omega) (by dsimp only; omega) (by dsimp only; omega) (by dsimp only; omega) (by dsimp only; omega)
        · rw [b3 c k c1 c2 (by omega) (by omega), upc_ne c4]
          exact a2.1 c k (by omega) (by omega)
        · rw [b3 55 last (by omega) (by omega) (by omega) (by omega)]; exact up_k
        · refine (a3.same (fun c k c1 c2 c3 c4 c5 => ?_) (fun c k c1 c2 c3 c4 => ?_)).cons (by rw [b4]; exact b5) b8 b7
          · rw [b3 c k c1 c2 c4 c5, upc_ne (by omega)]
          · rw [b2.1 c k (by omega) (by omega), upc_ne (by omega)]
theorem HR0_step {t : Int} {u : Nat → Int} {n f : Nat} (hS : HS t u n f) (hR : HR t u n f) : HR0 t u n (f + 1) := by
  intro i st dp sc r hp d v Q nd had hd hg hst hsc hdp hq
  obtain ⟨d', rfl⟩ : ∃ d', d = d' + 1 := ⟨d - 1, by unfold dS at hd; omega⟩
  have hd20 : 20 ≤ d' := by unfold dS at hd; omega
  rw [PS_1] at hp
  obtain ⟨sg, nb, he⟩ := hg.1
  refine s_207_32 (RR.deep (d := 0 + 5) (is_14 he.2.1 ?_) (by omega))
  rw [he.ck]
  by_cases hk : kd u n i = 125
  · rw [decide_eq_true hk]
    rw [if_pos hk] at hp
    have hp : okQ .null (i + 1) st sc = some r := hp
    cases hp
    refine ⟨fun c => absurd c (by decide), fun _ => blk_end (by omega) hdp hg hk (fun v6 g1 g2 g3 => ?_)⟩
    refine hq v6 nd (-1) g1 (g3 nd st) ?_ (by decide) (Nat.le_refl _) (Nat.le_refl _) hst (by dsimp only; omega) (by dsimp only; omega)
    unfold RS
    exact ⟨Nat.le_refl _, Nat.le_refl _, rfl⟩
  · rw [decide_eq_false hk]
    rw [if_neg hk] at hp
    refine ⟨fun _ => ?_, fun c => absurd rfl c⟩
    rcases bndS_some hp with ⟨j, h1, rfl⟩ | ⟨s, i1, st1, sc1, h1, h2⟩
    · refine hS i st dp sc _ h1 d' v _ nd (by unfold dS at *; omega) hg hst hsc hdp ?_
      intro v3 a1 a2
      exact ⟨fun _ => hq v3 a1 a2, fun c => absurd (by decide) c⟩
    · refine hS i st dp sc _ h1 d' v _ nd (by unfold dS at *; omega) hg hst hsc hdp ?_
      intro v3 nd1 a1 a2 a3 a4 a5 a6 a7 a8 a9 a10
      dsimp only at a1 a3 a6 a7 a8 a9 a10
      refine ⟨fun c => absurd c int_nn, fun _ => ⟨fun _ => ?_, fun c => absurd (by decide) c⟩⟩
      rcases bndS_some h2 with ⟨j, h3, rfl⟩ | ⟨l, i2, st2, sc2, h3, h4⟩
      · refine hR i1 st1 dp sc1 _ h3 (d' + 1) v3 Q nd1 st had st (by unfold dS at *; omega) a1 a7 a8 hdp a6 a4 ?_
        intro v' b1 b2
        exact hq v' b1 (a2.trans b2 (by omega) (Nat.le_refl _))
      · have h4 : okQ (.sub s l) i2 st2 sc2 = some r := h4
        cases h4
        refine hR i1 st1 dp sc1 _ h3 (d' + 1) v3 Q nd1 st had st (by unfold dS at *; omega) a1 a7 a8 hdp a6 a4 ?_
        intro v' nd' x b1 b2 b3 b4 b5 b6 b7 b8 b9 b10 b11
        dsimp only at b1 b5 b8 b9 b10 b11
        refine hq v' nd' st b1 (a2.trans b2 (by omega) (Nat.le_refl _)) ?_ (by omega) (by omega) (by dsimp only; omega) (by dsimp only; omega) (by dsimp only; omega) (by dsimp only; omega)
        refine (a3.same (fun c k c1 c2 c3 c4 c5 => ?_) (fun c k c1 c2 c3 c4 => ?_)).cons (by rw [b4]; exact b5) b8 b7
        · rw [b3 c k c1 c2 c4 c5]
        · rw [b2.1 c k (by omega) (by omega)]
theorem HB_step {t : Int} {u : Nat → Int} {n f : Nat} (hR0 : HR0 t u n f) : HB t u n (f + 1) := by
  intro i st dp sc r hp d v Q nd hd hg hst hsc hdp hq
  obtain ⟨d', rfl⟩ : ∃ d', d = d' + 1 := ⟨d - 1, by unfold dS at hd; omega⟩
  have hd20 : 20 ≤ d' := by unfold dS at hd; omega
  rw [PS_0] at hp
  obtain ⟨sg, nb, he⟩ := hg.1
  refine w_207 (RR.deep (d := 0 + 9) (take_13 he (fun hk v1 b1 b2 => ?_) (fun hk v1 b1 b2 => ?_)) (by omega))
  · rw [if_pos hk] at hp
    refine ⟨fun c => absurd c (by decide), fun _ => ?_⟩
    have hg1 := hg.next he (by omega) (by omega) b1 (Nat.le_refl _) (st' := st) (dp' := dp) (sc' := sc) (by rw [b2.2 22 (by omega)]; exact hg.2.2.2.1) (by rw [b2.2 40 (by omega)]; exact hg.2.2.2.2.1) (by rw [b2.2 41 (by omega)]; exact hg.2.2.2.2.2)
    rw [hg1.2.2.2.2.2, hg1.2.2.2.2.1, wS (show dp < 9 by omega) (by decide)]
    have hg2 : SG (up v1 38 40 ((dp + 1 : Nat) : Int)) u n (i + 1) st (dp + 1) sc nd := hg1.upd rfl (fun k hk => by rw [up_nk (by omega)]) hg1.2.2.2.1 rfl hg1.2.2.2.2.2
    have f2 : SFr nd st v (up v1 38 40 ((dp + 1 : Nat) : Int)) := (SFr.efr (EFr.s38 b2)).trans (SFr.u38 (by omega)) (Nat.le_refl _) (Nat.le_refl _)
    rcases bndS_some hp with ⟨j, h1, rfl⟩ | ⟨l, i1, st1, sc1, h1, h2⟩
    · refine hR0 (i + 1) st dp sc _ h1 (d' + 1) _ Q nd sc (by unfold dS at *; omega) hg2 hst hsc hdp ?_
      intro v' a1 a2
      exact hq v' a1 (f2.trans a2 (Nat.le_refl _) (Nat.le_refl _))
    · have h2 : okQ l i1 st1 sc = some r := h2
      cases h2
      refine hR0 (i + 1) st dp sc _ h1 (d' + 1) _ Q nd sc (by unfold dS at *; omega) hg2 hst hsc hdp ?_
      intro v' nd' x a1 a2 a3 a4 a5 a6 a7 a8 a9
      dsimp only at a1 a3 a6 a7 a8 a9
      exact hq v' nd' x a1 (f2.trans a2 (Nat.le_refl _) (Nat.le_refl _)) a3 a4 a5 a6 a7 (by dsimp only; omega) (by dsimp only; omega)
  · rw [if_neg hk] at hp
    have hp : erQ i = some r := hp
    cases hp
    exact ⟨fun _ => hq v1 b1 (SFr.efr (b2 nd)), fun c => absurd rfl c⟩
/-- the reference reads S and BLOCK as the grammar says -/
theorem CS_all (t : Int) (u : Nat → Int) (n : Nat) : ∀ f, HS t u n f ∧ HB t u n f ∧ HR t u n f ∧ HR0 t u n f := by
  intro f
  induction f with
  | zero =>
    refine ⟨fun i st dp sc r h => ?_, fun i st dp sc r h => ?_, fun i st dp sc r h => ?_, fun i st dp sc r h => ?_⟩ <;> cases h
  | succ f ih =>
    obtain ⟨h1, h2, h3, h4⟩ := ih
    exact ⟨HS_step h2, HB_step h4, HR_step h1 h3, HR0_step h1 h3⟩
