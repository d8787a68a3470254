/-! The reference reads an E: names and calls. -/
theorem HN_step {t : Int} {u : Nat → Int} {n f : Nat} (h17 : H17 t u n f) {x : Jvm.Term} {i sg nb : Nat} {r : Except Nat (Jvm.Term × Nat × Nat)} (hk2 : kd u n i = 2) (hp : PE (kd u n) (f + 1) 7 x i sg nb = some r) {d : Nat} {v : Mem} {Q : Int → Mem → Prop} {nd : Nat} (hd : dN nb sg 3 ≤ d) (hg : EG v u n i sg nb nd) (hnd : nd ≤ i) (hq : PoE Q v u n nd nd nb sg i r) : RR t d 205 [(2, 38)] v Q := by
  obtain ⟨d', rfl⟩ : ∃ d', d = d' + 1 := ⟨d - 1, by unfold dN at hd; omega⟩
  have hd20 : 20 ≤ d' := by unfold dN at hd; omega
  have hi := hg.lt
  rw [PE_7, if_neg (by omega), if_pos hk2] at hp
  have hk0 : kd u n i ≠ 0 ∧ kd u n i ≠ 1 := by omega
  refine s_205 (RR.deep (d := 0 + 8) (nx_es hg.1 hk0.2 (fun v1 b1 b2 => ?_)) (by omega))
  have hg1 := hg.next hk0.1 hk0.2 b1 hg.2.2.1 hg.2.2.2
  have fr1 : EFr nd v v1 := EFr.s38 b2
  rw [hg.1.len]
  refine RR.deep (d := 0 + 5) (is_7 hg1.1.2.1 ?_) (by omega)
  rw [hg1.1.ck]
  by_cases hk : kd u n (i + 1) = 40
  · rw [decide_eq_true hk]
    rw [if_pos hk] at hp
    have hkk : kd u n (i + 1) ≠ 0 ∧ kd u n (i + 1) ≠ 1 := by omega
    refine ⟨fun c => absurd c (by decide), fun _ => ?_⟩
    refine RR.deep (d := 0 + 1) (sign_rr hg1.1.2.2.1 hg1.1.2.2.2.2.2 (by have := hg.2.2.2; omega) (fun hs => ?_) (fun hs => ?_)) (by omega)
    · rw [if_neg (by omega)] at hp
      refine ⟨fun c => absurd c (by decide), fun _ => ?_⟩
      have hg2 := sg_eg hg1 hs
      have fr2 : EFr nd v (up v1 38 39 ((sg + 1 : Nat) : Int)) := fr1.trans (EFr.u38 (by omega)) (Nat.le_refl _)
      refine RR.deep (d := 0 + 10) (opens_7 hg2.1 hg.2.2.1 (fun _ hnb v3 c1 c2 => ?_) (fun hno v3 c1 c2 => ?_)) (by omega)
      · rw [if_neg (by omega)] at hp
        refine ⟨fun c => absurd c (by decide), fun _ => ?_⟩
        have hg3 := hg2.next hkk.1 hkk.2 c1 hnb hs
        have fr3 : EFr nd v v3 := fr2.trans (c2 nd) (Nat.le_refl _)
        refine node_rr c1.2.2.2.2.1 (by omega) ?_
        have hg4 : EG (nodeM v3 nd 4 (v 38 10) (ln u n i) (-1) (v 38 10)) u n (i + 1 + 1) (sg + 1) (nb + 1) (nd + 1) := nodeM_eg hg3
        have fr4 : EFr nd v (nodeM v3 nd 4 (v 38 10) (ln u n i) (-1) (v 38 10)) := fr3.trans (nodeM_fr (Nat.le_refl _)) (Nat.le_refl _)
        have e57 : nodeM v3 nd 4 (v 38 10) (ln u n i) (-1) (v 38 10) 57 nd = 4 := nodeM_57
        have e58 : nodeM v3 nd 4 (v 38 10) (ln u n i) (-1) (v 38 10) 58 nd = (ps u n i : Nat) := by rw [nodeM_58]; exact hg.1.at
        have e59 : nodeM v3 nd 4 (v 38 10) (ln u n i) (-1) (v 38 10) 59 nd = ln u n i := nodeM_59
        have e60 : nodeM v3 nd 4 (v 38 10) (ln u n i) (-1) (v 38 10) 60 nd = -1 := nodeM_60
        have e61 : nodeM v3 nd 4 (v 38 10) (ln u n i) (-1) (v 38 10) 61 nd = (ps u n i : Nat) := by rw [nodeM_61]; exact hg.1.at
        have e62 : nodeM v3 nd 4 (v 38 10) (ln u n i) (-1) (v 38 10) 62 nd = -1 := nodeM_62
        generalize nodeM v3 nd 4 (v 38 10) (ln u n i) (-1) (v 38 10) = w at *
        refine s_205_72 (RR.deep (d := 0 + 5) (is_8 hg4.1.2.1 ?_) (by omega))
        rw [hg4.1.ck]
        by_cases h41 : kd u n (i + 1 + 1) = 41
        · rw [decide_eq_true h41]
          rw [if_pos h41] at hp
          have hp : okP (.op2 .ixor (.arg i) .null) (i + 3) (sg + 1) = some r := hp
          cases hp
          refine ⟨fun c => absurd c (by decide), fun _ => ⟨fun _ => ?_, fun c => absurd (by decide) c⟩⟩
          refine RR.deep (d := 0 + 10) (shuts_8 hg4.1 (by omega) (fun _ v6 g1 g2 => ?_) (fun hno v6 g1 g2 => absurd h41 hno)) (by omega)
          have h410 : kd u n (i + 1 + 1) ≠ 0 ∧ kd u n (i + 1 + 1) ≠ 1 := by omega
          have hg6 := hg4.next h410.1 h410.2 g1 (by omega) hs
          refine ⟨fun c => absurd c (by decide), fun _ => ?_⟩
          refine hq v6 (nd + 1) nd hg6 (fr4.trans (g2 nd) (Nat.le_refl _)) ?_ trivial ⟨?_, ?_⟩ ⟨Nat.le_refl _, Nat.lt_succ_self _⟩ (by omega) (by dsimp only; omega) (by dsimp only; omega)
          · unfold RN
            refine ⟨nd, rfl, Nat.le_refl _, Nat.lt_succ_self _, ?_, ?_, ?_, ?_⟩
            · rw [EFr.all g2 57 nd (by omega)]; exact e57
            · rw [EFr.all g2 58 nd (by omega)]; exact e58
            · rw [EFr.all g2 59 nd (by omega)]; exact e59
            · unfold RN
              exact ⟨Nat.le_refl _, by rw [EFr.all g2 60 nd (by omega)]; exact e60⟩
          · rw [EFr.all g2 61 nd (by omega)]; exact e61
          · rw [EFr.all g2 62 nd (by omega)]; exact e62
        · rw [decide_eq_false h41]
          rw [if_neg h41] at hp
          refine ⟨fun _ => ?_, fun c => absurd rfl c⟩
          have hcont : ∀ (v' : Mem) (hi : Nat) (y : Int) (rest : Jvm.Term), (∀ c j, 57 ≤ c → c ≤ 62 → j < nd + 1 → ¬ (c = 60 ∧ j = nd) → v' c j = w c j) → v' 60 nd = y → RN v' u n rest (nd + 1) hi y → RN v' u n (id rest) (nd + 1) hi (v' 60 nd) := by
            intro v' hi y rest _ c2 c3
            rw [c2]
            exact c3
          rcases bnd_some hp with ⟨j, h1, rfl⟩ | ⟨as, i1, s1, h1, h2⟩
          · refine h17 x (i + 1 + 1) (sg + 1) nb _ h1 d' w Q nd (nd + 1) nd 60 nd (-1) id (by unfold dN at *; omega) hnb hg4 (by omega) (Nat.le_refl _) (Nat.lt_succ_self _) (Nat.le_refl _) (Or.inl ⟨rfl, rfl, by decide⟩) (Nat.lt_succ_self _) hcont ?_
            intro v' a1 a2
            exact hq v' a1 (fr4.trans a2 (Nat.le_refl _))
          · refine h17 x (i + 1 + 1) (sg + 1) nb _ h1 d' w Q nd (nd + 1) nd 60 nd (-1) id (by unfold dN at *; omega) hnb hg4 (by omega) (Nat.le_refl _) (Nat.lt_succ_self _) (Nat.le_refl _) (Or.inl ⟨rfl, rfl, by decide⟩) (Nat.lt_succ_self _) hcont ?_
            dsimp only
            by_cases hk9 : kd u n i1 = 41
            · rw [if_pos hk9] at h2 ⊢
              have h2 : okP (.op2 .ixor (.arg i) as) (i1 + 1) s1 = some r := h2
              cases h2
              intro v' nd' g1 g2 g3 g4 g5 g6 g7
              refine hq v' nd' nd g1 (fr4.trans g2 (Nat.le_refl _)) ?_ trivial ⟨?_, ?_⟩ ⟨Nat.le_refl _, by omega⟩ (by omega) (by dsimp only; omega) (by dsimp only; omega)
              · unfold RN
                refine ⟨nd, rfl, Nat.le_refl _, by omega, ?_, ?_, ?_, g4⟩
                · rw [g3 57 nd (by omega) (by omega) (by omega) (by omega)]; exact e57
                · rw [g3 58 nd (by omega) (by omega) (by omega) (by omega)]; exact e58
                · rw [g3 59 nd (by omega) (by omega) (by omega) (by omega)]; exact e59
              · rw [g3 61 nd (by omega) (by omega) (by omega) (by omega)]; exact e61
              · rw [g3 62 nd (by omega) (by omega) (by omega) (by omega)]; exact e62
            · rw [if_neg hk9] at h2 ⊢
              have h2 : erP i1 = some r := h2
              cases h2
              intro v' a1 a2
              exact hq v' a1 (fr4.trans a2 (Nat.le_refl _))
      · have hnb : 8 ≤ nb := by
          rcases Nat.lt_or_ge nb 8 with h9 | h9
          · exact absurd ⟨hk, h9⟩ hno
          · exact h9
        rw [if_pos hnb] at hp
        have hp : erP (i + 1) = some r := hp
        cases hp
        exact ⟨fun _ => hq v3 c1 (fr2.trans (c2 nd) (Nat.le_refl _)), fun c => absurd rfl c⟩
    · rw [if_pos hs] at hp
      have hp : erP i = some r := hp
      cases hp
      refine ⟨fun _ => ?_, fun c => absurd rfl c⟩
      exact hq _ ⟨rfl, hg.1.at⟩ (EFr.fail (fr1.trans (EFr.u38 (by omega)) (Nat.le_refl _)))
  · rw [decide_eq_false hk]
    rw [if_neg hk] at hp
    have hp : okP (.arg i) (i + 1) sg = some r := hp
    cases hp
    refine ⟨fun _ => ?_, fun c => absurd rfl c⟩
    refine node_rr b1.2.2.2.2.1 (by omega) ?_
    refine hq _ (nd + 1) nd (nodeM_eg hg1) (fr1.trans (nodeM_fr (Nat.le_refl _)) (Nat.le_refl _)) ?_ trivial ⟨by rw [nodeM_61]; exact hg.1.at, nodeM_62⟩ ⟨Nat.le_refl _, Nat.lt_succ_self _⟩ (by omega) (by dsimp only; omega) (Nat.le_refl _)
    unfold RN
    refine ⟨nd, rfl, Nat.le_refl _, Nat.lt_succ_self _, fun h => by omega, fun h => by omega, fun _ => ⟨nodeM_57, by rw [nodeM_58]; exact hg.1.at, nodeM_59⟩, Or.inr (Or.inr hk2)⟩
/-! len, find, digits, sign -/
theorem ATF {t : Int} {u : Nat → Int} {n f : Nat} (hE : HE t u n f) {x : Jvm.Term} {i sg nb : Nat} {r : Except Nat (Jvm.Term × Nat × Nat)} {s0 : Int} (hk : (kd u n i = 18 ∧ s0 = 21 ∨ kd u n i = 11 ∧ s0 = 23 ∨ kd u n i = 23 ∧ s0 = 24) ∨ kd u n i = 14 ∧ s0 = 22) (hp : PE (kd u n) (f + 1) 7 x i sg nb = some r) {d' : Nat} {v : Mem} {Q : Int → Mem → Prop} {nd : Nat} (hd : dN nb sg 4 ≤ d' + 1) (hg : EG v u n i sg nb nd) (hnd : nd ≤ i) (hq : PoE Q v u n nd nd nb sg i r) : LL t (d' + 1) 204 198 [(2, 38), (0, (v 38 10)), (3, 0), (3, 0), (3, 0)] [(0, s0)] v Q := by
  have hd20 : 20 ≤ d' := by unfold dN at hd; omega
  have hi := hg.lt
  rw [PE_7, if_neg (by omega), if_neg (by omega), if_neg (by omega)] at hp
  have hk0 : kd u n i ≠ 0 ∧ kd u n i ≠ 1 := by omega
  refine s_204_198 ⟨fun c => absurd c (by omega), fun _ => ?_⟩
  refine RR.deep (d := 0 + 1) (sign_rr hg.1.2.2.1 hg.1.2.2.2.2.2 (by have := hg.2.2.2; omega) (fun hs => ?_) (fun hs => ?_)) (by omega)
  · refine ⟨fun c => absurd c (by decide), fun _ => ?_⟩
    have hg1 := sg_eg hg hs
    refine RR.deep (d := 0 + 8) (nx_es hg1.1 hk0.2 (fun v2 b1 b2 => ?_)) (by omega)
    have hg2 := hg1.next hk0.1 hk0.2 b1 hg.2.2.1 hs
    have fr2 : EFr nd v v2 := (EFr.u38 (by omega)).trans (EFr.s38 b2) (Nat.le_refl _)
    refine RR.deep (d := 0 + 10) (opens_7 hg2.1 hg.2.2.1 (fun h40 hnb v3 c1 c2 => ?_) (fun hno v3 c1 c2 => ?_)) (by omega)
    · have h400 : kd u n (i + 1) ≠ 0 ∧ kd u n (i + 1) ≠ 1 := by omega
      have hg3 := hg2.next h400.1 h400.2 c1 hnb hs
      have fr3 : EFr nd v v3 := fr2.trans (c2 nd) (Nat.le_refl _)
      refine ⟨fun c => absurd c (by decide), fun _ => ?_⟩
      rcases hk with hk | hk
      · -- one part
        rw [if_pos (by omega), if_neg (by omega), if_pos ⟨h40, hnb⟩] at hp
        rcases bnd_some hp with ⟨j, h1, rfl⟩ | ⟨y, i1, s1, h1, h2⟩
        · refine hE 0 x (i + 1 + 1) (sg + 1) (nb + 1) _ (by omega) h1 d' v3 _ nd (by unfold dN at *; omega) hg3 (by omega) ?_
          intro v4 a1 a2
          exact ⟨fun _ => ⟨fun _ => hq v4 a1 (fr3.trans a2 (Nat.le_refl _)), fun c => absurd (by decide) c⟩, fun c => absurd (by decide) c⟩
        · refine hE 0 x (i + 1 + 1) (sg + 1) (nb + 1) _ (by omega) h1 d' v3 _ nd (by unfold dN at *; omega) hg3 (by omega) ?_
          intro v4 nd4 Y a1 a2 a3 a4 a5 a6 a7 a8 a9
          dsimp only at a1 a3 a4 a5 a8 a9
          have fr4 : EFr nd v v4 := fr3.trans a2 (Nat.le_refl _)
          refine ⟨fun c => absurd c int_nn, fun _ => ⟨fun c => absurd c (by omega), fun _ => ⟨fun c => absurd c int_nn, fun _ => ?_⟩⟩⟩
          refine RR.deep (d := 0 + 10) (shuts_8 a1.1 hg.2.2.1 (fun hk5 v6 g1 g2 => ?_) (fun hk5 v6 g1 g2 => ?_)) (by omega)
          · rw [if_pos hk5] at h2
            have h2 : okP (.op2 .iand (.arg i) y) (i1 + 1) s1 = some r := h2
            cases h2
            have hk50 : kd u n i1 ≠ 0 ∧ kd u n i1 ≠ 1 := by omega
            have hg6 := a1.next hk50.1 hk50.2 g1 hg.2.2.1 a1.2.2.2
            have i6 := hg6.lt
            refine ⟨fun c => absurd c (by decide), fun _ => node_rr g1.2.2.2.2.1 (by omega) ?_⟩
            have fM : EFr nd4 v6 (nodeM v6 nd4 s0 Y 0 0 (v 38 10)) := nodeM_fr (Nat.le_refl _)
            have fM4 : EFr nd4 v4 (nodeM v6 nd4 s0 Y 0 0 (v 38 10)) := (g2 nd4).trans fM (Nat.le_refl _)
            refine hq _ (nd4 + 1) nd4 (nodeM_eg hg6) (fr4.trans fM4 a7) ?_ trivial ⟨by rw [nodeM_61]; exact hg.1.at, nodeM_62⟩ ⟨by omega, Nat.lt_succ_self _⟩ (by omega) (by dsimp only; omega) (by dsimp only; omega)
            unfold RN
            refine ⟨nd4, Y, rfl, a6.1, a6.2, Nat.lt_succ_self _, ?_, nodeM_58, RN_keep fM4 (Nat.le_refl _) a3, ?_⟩
            · rw [nodeM_57]
              unfold one1
              rcases hk with h | h | h
              · rw [if_pos h.1]; exact h.2
              · rw [if_neg (by omega), if_pos h.1]; exact h.2
              · rw [if_neg (by omega), if_neg (by omega)]; exact h.2
            · rw [fst_keep fM4 a6.2]; exact a5.1
          · rw [if_neg hk5] at h2
            have h2 : erP i1 = some r := h2
            cases h2
            exact ⟨fun _ => hq v6 g1 (fr4.trans (g2 nd) (Nat.le_refl _)), fun c => absurd rfl c⟩
      · -- find
        rw [if_neg (by omega), if_pos hk.1, if_neg (by omega), if_pos ⟨h40, hnb⟩] at hp
        rcases bnd_some hp with ⟨j, h1, rfl⟩ | ⟨y, i1, s1, h1, h2⟩
        · refine hE 0 x (i + 1 + 1) (sg + 1) (nb + 1) _ (by omega) h1 d' v3 _ nd (by unfold dN at *; omega) hg3 (by omega) ?_
          intro v4 a1 a2
          exact ⟨fun _ => ⟨fun _ => hq v4 a1 (fr3.trans a2 (Nat.le_refl _)), fun c => absurd (by decide) c⟩, fun c => absurd (by decide) c⟩
        · refine hE 0 x (i + 1 + 1) (sg + 1) (nb + 1) _ (by omega) h1 d' v3 _ nd (by unfold dN at *; omega) hg3 (by omega) ?_
          intro v4 nd4 Y a1 a2 a3 a4 a5 a6 a7 a8 a9
          dsimp only at a1 a3 a4 a5 a8 a9
          have fr4 : EFr nd v v4 := fr3.trans a2 (Nat.le_refl _)
          refine ⟨fun c => absurd c int_nn, fun _ => ⟨fun _ => ?_, fun c => absurd hk.2 c⟩⟩
          refine RR.deep (d := 0 + 9) (take_12 a1.1 (fun h44 v5 e1 e2 => ?_) (fun h44 v5 e1 e2 => ?_)) (by omega)
          · rw [if_pos h44] at h2
            have h440 : kd u n i1 ≠ 0 ∧ kd u n i1 ≠ 1 := by omega
            have hg5 := a1.next h440.1 h440.2 e1 a1.2.2.1 a1.2.2.2
            have fr45 : EFr nd4 v4 v5 := EFr.s38 e2
            refine ⟨fun c => absurd c (by decide), fun _ => ?_⟩
            rcases bnd_some h2 with ⟨j, h3, rfl⟩ | ⟨z, i2, s2, h3, h4⟩
            · refine hE 0 x (i1 + 1) s1 (nb + 1) _ (by omega) h3 d' v5 _ nd4 (by unfold dN at *; omega) hg5 (by omega) ?_
              intro v6 g1 g2
              exact ⟨fun c => absurd c int_nn, fun _ => ⟨fun _ => hq v6 g1 ((fr4.trans fr45 a7).trans g2 a7), fun c => absurd (by decide) c⟩⟩
            · refine hE 0 x (i1 + 1) s1 (nb + 1) _ (by omega) h3 d' v5 _ nd4 (by unfold dN at *; omega) hg5 (by omega) ?_
              intro v6 nd6 Z l1 l2 l3 l4 l5 l6 l7 l8 l9
              dsimp only at l1 l3 l4 l5 l8 l9
              have fr46 : EFr nd4 v4 v6 := fr45.trans l2 (Nat.le_refl _)
              refine ⟨fun c => absurd c int_nn, fun _ => ⟨fun c => absurd c int_nn, fun _ => ?_⟩⟩
              refine RR.deep (d := 0 + 10) (shuts_8 l1.1 hg.2.2.1 (fun hk5 v7 g1 g2 => ?_) (fun hk5 v7 g1 g2 => ?_)) (by omega)
              · rw [if_pos hk5] at h4
                have h4 : okP (.op2 .ior (.arg i) (.sub y z)) (i2 + 1) s2 = some r := h4
                cases h4
                have hk50 : kd u n i2 ≠ 0 ∧ kd u n i2 ≠ 1 := by omega
                have hg7 := l1.next hk50.1 hk50.2 g1 hg.2.2.1 l1.2.2.2
                have i7 := hg7.lt
                refine ⟨fun c => absurd c (by decide), fun _ => node_rr g1.2.2.2.2.1 (by omega) ?_⟩
                have fM : EFr nd6 v7 (nodeM v7 nd6 s0 Y Z 0 (v 38 10)) := nodeM_fr (Nat.le_refl _)
                have fM6 : EFr nd6 v6 (nodeM v7 nd6 s0 Y Z 0 (v 38 10)) := (g2 nd6).trans fM (Nat.le_refl _)
                have fM4 : EFr nd4 v4 (nodeM v7 nd6 s0 Y Z 0 (v 38 10)) := fr46.trans fM6 l7
                refine hq _ (nd6 + 1) nd6 (nodeM_eg hg7) (fr4.trans fM4 a7) ?_ trivial ⟨by rw [nodeM_61]; exact hg.1.at, nodeM_62⟩ ⟨by omega, Nat.lt_succ_self _⟩ (by omega) (by dsimp only; omega) (by dsimp only; omega)
                unfold RN
                refine ⟨nd6, Y, Z, nd4, rfl, a6.1, a6.2, l6.1, l6.2, Nat.lt_succ_self _, by rw [nodeM_57]; exact hk.2, nodeM_58, nodeM_59, RN_keep fM4 (Nat.le_refl _) a3, ?_, RN_keep fM6 (Nat.le_refl _) l3, ?_⟩
                · rw [fst_keep fM4 a6.2]; exact a5.1
                · rw [fst_keep fM6 l6.2]; exact l5.1
              · rw [if_neg hk5] at h4
                have h4 : erP i2 = some r := h4
                cases h4
                exact ⟨fun _ => hq v7 g1 ((fr4.trans fr46 a7).trans (g2 nd) (Nat.le_refl _)), fun c => absurd rfl c⟩
          · rw [if_neg h44] at h2
            have h2 : erP i1 = some r := h2
            cases h2
            exact ⟨fun _ => ⟨fun _ => hq v5 e1 (fr4.trans (e2 nd) (Nat.le_refl _)), fun _ => hq v5 e1 (fr4.trans (e2 nd) (Nat.le_refl _))⟩, fun c => absurd rfl c⟩
    · have hr : r = .error (i + 1) := by
        rcases hk with hk | hk
        · rw [if_pos (by omega), if_neg (by omega), if_neg hno] at hp
          exact (Option.some.inj hp).symm
        · rw [if_neg (by omega), if_pos hk.1, if_neg (by omega), if_neg hno] at hp
          exact (Option.some.inj hp).symm
      subst hr
      exact ⟨fun _ => hq v3 c1 (fr2.trans (c2 nd) (Nat.le_refl _)), fun c => absurd rfl c⟩
  · have hr : r = .error i := by
      rcases hk with hk | hk
      · rw [if_pos (by omega), if_pos hs] at hp
        exact (Option.some.inj hp).symm
      · rw [if_neg (by omega), if_pos hk.1, if_pos hs] at hp
        exact (Option.some.inj hp).symm
    subst hr
    refine ⟨fun _ => ?_, fun c => absurd rfl c⟩
    exact hq _ ⟨rfl, hg.1.at⟩ (EFr.fail (EFr.u38 (by omega)))
