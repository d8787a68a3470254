/-! The reference reads an E: FRONT and PART. -/
theorem HF_step {t : Int} {u : Nat → Int} {n f : Nat} (hF : HF t u n f) (hP : HP t u n f) : HF t u n (f + 1) := by
  intro x i sg nb r hp d v Q nd hd hg hnd hq
  obtain ⟨d', rfl⟩ : ∃ d', d = d' + 1 := ⟨d - 1, by unfold dN at hd; omega⟩
  have hd20 : 20 ≤ d' := by unfold dN at hd; omega
  rw [PE_5] at hp
  have tail : (kd u n i = 45 ∨ kd u n i = 33) → ∀ c : Int, c = (if kd u n i = 45 then 5 else 6) → RR t d' 197 [(2, 38), (0, (v 38 10))] v (fun x v2 => (x = 0 → Q (-1) v2) ∧ (¬ x = 0 → RR t d' 189 [(2, 38)] v2 (fun _ v3 => RR t d' 202 [(2, 38)] v3 (fun y v4 => (y < 0 → Q (-1) v4) ∧ (¬ y < 0 → RR t d' 196 [(2, 38), (0, c), (0, y), (0, 0), (0, 0), (0, (v 38 10))] v4 (fun z v5 => Q z v5)))))) := by
    intro hk c hc
    rw [if_pos hk] at hp
    have hk0 : kd u n i ≠ 0 ∧ kd u n i ≠ 1 := by omega
    refine RR.deep (d := 0 + 1) (sign_rr hg.1.2.2.1 hg.1.2.2.2.2.2 (by have := hg.2.2.2; omega) (fun hs => ?_) (fun hs => ?_)) (by omega)
    · rw [if_neg (by omega)] at hp
      refine ⟨fun c => absurd c (by decide), fun _ => ?_⟩
      have hg1 := sg_eg hg hs
      refine RR.deep (d := 0 + 8) (nx_es hg1.1 hk0.2 (fun v2 b1 b2 => ?_)) (by omega)
      have hg2 := hg1.next hk0.1 hk0.2 b1 hg.2.2.1 hs
      have fr2 : EFr nd v v2 := (EFr.u38 (by omega)).trans (EFr.s38 b2) (Nat.le_refl _)
      rcases bnd_some hp with ⟨j, h1, rfl⟩ | ⟨y, i1, s1, h1, h2⟩
      · refine hF x (i + 1) (sg + 1) nb _ h1 d' v2 _ nd (by unfold dN at *; omega) hg2 (by omega) ?_
        intro v3 a1 a2
        exact ⟨fun _ => hq v3 a1 (fr2.trans a2 (Nat.le_refl _)), fun c => absurd (by decide) c⟩
      · refine hF x (i + 1) (sg + 1) nb _ h1 d' v2 _ nd (by unfold dN at *; omega) hg2 (by omega) ?_
        intro v3 nd3 Y a1 a2 a3 a4 a5 a6 a7 a8 a9
        dsimp only at a1 a3 a4 a5 a8 a9
        have i3 := a1.lt
        have fr3 : EFr nd v v3 := fr2.trans a2 (Nat.le_refl _)
        refine ⟨fun c => absurd c int_nn, fun _ => ?_⟩
        refine node_rr a1.1.2.2.2.2.1 (by omega) ?_
        have h2 : okP (.mul (.arg i) y) i1 s1 = some r := h2
        cases h2
        have fM : EFr nd3 v3 (nodeM v3 nd3 c Y 0 0 (v 38 10)) := nodeM_fr (Nat.le_refl _)
        refine hq _ (nd3 + 1) nd3 (nodeM_eg a1) (fr3.trans fM a7) ?_ trivial ⟨by rw [nodeM_61]; exact hg.1.at, nodeM_62⟩ ⟨by omega, Nat.lt_succ_self _⟩ (by omega) (by dsimp only; omega) (by dsimp only; omega)
        unfold RN
        refine ⟨nd3, Y, rfl, a6.1, a6.2, Nat.lt_succ_self _, by rw [nodeM_57]; exact hc, nodeM_58, RN_keep fM (Nat.le_refl _) a3, ?_⟩
        rw [fst_keep fM a6.2]; exact a5.1
    · rw [if_pos hs] at hp
      have hp : erP i = some r := hp
      cases hp
      refine ⟨fun _ => ?_, fun c => absurd rfl c⟩
      exact hq _ ⟨rfl, hg.1.at⟩ (EFr.fail (EFr.u38 (by omega)))
  refine s_202 (RR.deep (d := 0 + 5) (is_22 hg.1.2.1 ?_) (by omega))
  rw [hg.1.ck]
  by_cases hm : kd u n i = 45
  · rw [decide_eq_true hm]
    refine ⟨fun c => absurd c (by decide), fun _ => RR.deep (d := 0 + 5) (is_22 hg.1.2.1 ?_) (by omega)⟩
    rw [hg.1.ck, decide_eq_true hm]
    exact ⟨fun c => absurd c (by decide), fun _ => tail (Or.inl hm) 5 (by rw [if_pos hm])⟩
  · rw [decide_eq_false hm]
    refine ⟨fun _ => RR.deep (d := 0 + 5) (is_23 hg.1.2.1 ?_) (by omega), fun c => absurd rfl c⟩
    rw [hg.1.ck]
    by_cases hm2 : kd u n i = 33
    · rw [decide_eq_true hm2]
      refine ⟨fun c => absurd c (by decide), fun _ => RR.deep (d := 0 + 5) (is_22 hg.1.2.1 ?_) (by omega)⟩
      rw [hg.1.ck, decide_eq_false hm]
      exact ⟨fun _ => tail (Or.inr hm2) 6 (by rw [if_neg hm]), fun c => absurd rfl c⟩
    · rw [decide_eq_false hm2]
      rw [if_neg (fun h => by rcases h with h | h <;> contradiction)] at hp
      refine ⟨fun _ => ?_, fun c => absurd rfl c⟩
      exact RR.imp (hP x i sg nb r hp d' v Q nd (by unfold dN at *; omega) hg hnd hq) (fun _ _ h => h)
theorem HP_step {t : Int} {u : Nat → Int} {n f : Nat} (hA : HA t u n f) (hQ : HQ t u n f) : HP t u n (f + 1) := by
  intro x i sg nb r hp d v Q nd hd hg hnd hq
  obtain ⟨d', rfl⟩ : ∃ d', d = d' + 1 := ⟨d - 1, by unfold dN at hd; omega⟩
  rw [PE_6] at hp
  refine w_203 ?_
  rcases bnd_some hp with ⟨j, h1, rfl⟩ | ⟨e, i1, s1, h1, h2⟩
  · refine hA x i sg nb _ h1 d' v _ nd (by unfold dN at *; omega) hg hnd ?_
    intro v' a1 a2
    exact s_203_5 ⟨fun _ => hq v' a1 a2, fun c => absurd (by decide) c⟩
  · refine hA x i sg nb _ h1 d' v _ nd (by unfold dN at *; omega) hg hnd ?_
    intro v' nd' X a1 a2 a3 a4 a5 a6 a7 a8 a9
    dsimp only at a1 a3 a4 a5 a8 a9
    exact hQ e i1 s1 nb r h2 (d' + 1) v' Q nd nd' X (by unfold dN at *; omega) a1 (by omega) a3 a4 a5 a6 (hq.mono a2 a7 a8 a9)
theorem HQ_step {t : Int} {u : Nat → Int} {n f : Nat} (hE : HE t u n f) (hQ : HQ t u n f) : HQ t u n (f + 1) := by
  intro x i sg nb r hp d v Q lo nd X hd hg hnd hx hxe hx1 hX hq
  obtain ⟨d', rfl⟩ : ∃ d', d = d' + 1 := ⟨d - 1, by unfold dN at hd; omega⟩
  have hd20 : 20 ≤ d' := by unfold dN at hd; omega
  rw [PE_16] at hp
  refine s_203_5 ⟨fun c => absurd c int_nn, fun _ => RR.deep (d := 0 + 5) (is_28 hg.1.2.1 ?_) (by omega)⟩
  rw [hg.1.ck]
  by_cases hk : kd u n i = 91
  · rw [decide_eq_true hk]
    rw [if_pos hk] at hp
    have hk0 : kd u n i ≠ 0 ∧ kd u n i ≠ 1 := by omega
    refine ⟨fun c => absurd c (by decide), fun _ => ?_⟩
    refine RR.deep (d := 0 + 1) (sign_rr hg.1.2.2.1 hg.1.2.2.2.2.2 (by have := hg.2.2.2; omega) (fun hs => ?_) (fun hs => ?_)) (by omega)
    · rw [if_neg (by omega)] at hp
      refine ⟨fun c => absurd c (by decide), fun _ => ?_⟩
      have hg1 := sg_eg hg hs
      have fr1 : EFr nd v (up v 38 39 ((sg + 1 : Nat) : Int)) := EFr.u38 (by omega)
      refine RR.deep (d := 0 + 10) (opens_28 hg1.1 hg.2.2.1 (fun _ hnb v2 b1 b2 => ?_) (fun hno v2 b1 b2 => ?_)) (by omega)
      · rw [if_neg (by omega)] at hp
        refine ⟨fun c => absurd c (by decide), fun _ => ?_⟩
        have hg2 := hg1.next hk0.1 hk0.2 b1 hnb hs
        have fr2 : EFr nd v v2 := fr1.trans (b2 nd) (Nat.le_refl _)
        rcases bnd_some hp with ⟨j, h1, rfl⟩ | ⟨y, i1, s1, h1, h2⟩
        · refine hE 0 x (i + 1) (sg + 1) (nb + 1) _ (by omega) h1 d' v2 _ nd (by unfold dN at *; omega) hg2 (by omega) ?_
          intro v3 a1 a2
          exact ⟨fun _ => hq v3 a1 (fr2.trans a2 (Nat.le_refl _)), fun c => absurd (by decide) c⟩
        · refine hE 0 x (i + 1) (sg + 1) (nb + 1) _ (by omega) h1 d' v2 _ nd (by unfold dN at *; omega) hg2 (by omega) ?_
          intro v3 nd3 Y a1 a2 a3 a4 a5 a6 a7 a8 a9
          dsimp only at a1 a3 a4 a5 a8 a9
          have fr3 : EFr nd v v3 := fr2.trans a2 (Nat.le_refl _)
          have hx3 : RN v3 u n x lo nd X := RN_keep fr3 (Nat.le_refl _) hx
          have fx3 : v3 61 X = fstT u n x := (fst_keep fr3 hX.2).trans hx1.1
          refine ⟨fun c => absurd c int_nn, fun _ => RR.deep (d := 0 + 5) (is_9 a1.1.2.1 ?_) (by omega)⟩
          rw [a1.1.ck]
          by_cases hc : kd u n i1 = 58
          · -- t[a : b]
            rw [decide_eq_true hc]
            rw [if_pos hc] at h2
            have hc0 : kd u n i1 ≠ 0 ∧ kd u n i1 ≠ 1 := by omega
            refine ⟨fun c => absurd c (by decide), fun _ => RR.deep (d := 0 + 8) (nx_es a1.1 hc0.2 (fun v4 c1 c2 => ?_)) (by omega)⟩
            have hg4 := a1.next hc0.1 hc0.2 c1 a1.2.2.1 a1.2.2.2
            have fr34 : EFr nd3 v3 v4 := EFr.s38 c2
            rcases bnd_some h2 with ⟨j, h3, rfl⟩ | ⟨z, i2, s2, h3, h4⟩
            · refine hE 0 x (i1 + 1) s1 (nb + 1) _ (by omega) h3 d' v4 _ nd3 (by unfold dN at *; omega) hg4 (by omega) ?_
              intro v5 e1 e2
              exact ⟨fun _ => hq v5 e1 ((fr3.trans fr34 a7).trans e2 a7), fun c => absurd (by decide) c⟩
            · refine hE 0 x (i1 + 1) s1 (nb + 1) _ (by omega) h3 d' v4 _ nd3 (by unfold dN at *; omega) hg4 (by omega) ?_
              intro v5 nd5 Z e1 e2 e3 e4 e5 e6 e7 e8 e9
              dsimp only at e1 e3 e4 e5 e8 e9
              have fr35 : EFr nd3 v3 v5 := fr34.trans e2 (Nat.le_refl _)
              refine ⟨fun c => absurd c int_nn, fun _ => RR.deep (d := 0 + 10) (shuts_29 e1.1 hg.2.2.1 (fun hk5 v6 g1 g2 => ?_) (fun hk5 v6 g1 g2 => ?_)) (by omega)⟩
              · rw [if_pos hk5] at h4
                have hk50 : kd u n i2 ≠ 0 ∧ kd u n i2 ≠ 1 := by omega
                have hg6 := e1.next hk50.1 hk50.2 g1 hg.2.2.1 e1.2.2.2
                have i6 := hg6.lt
                have fr36 : EFr nd3 v3 v6 := fr35.trans (g2 nd3) (Nat.le_refl _)
                refine ⟨fun c => absurd c (by decide), fun _ => ⟨fun c => absurd c int_nn, fun _ => ⟨⟨by omega, by omega⟩, ?_⟩⟩⟩
                rw [Int.toNat_natCast]
                refine node_rr g1.2.2.2.2.1 (by omega) ?_
                have fM : EFr nd5 v6 (nodeM v6 nd5 20 X Y Z (v6 61 X)) := nodeM_fr (Nat.le_refl _)
                have fM3 : EFr nd3 v3 (nodeM v6 nd5 20 X Y Z (v6 61 X)) := fr36.trans fM e7
                have r4 : RN (nodeM v6 nd5 20 X Y Z (v6 61 X)) u n (.rem x (.sub y z)) lo (nd5 + 1) nd5 := by
                  unfold RN
                  refine ⟨nd5, X, Y, Z, nd, nd3, rfl, hX.1, hX.2, a6.1, a6.2, e6.1, e6.2, Nat.lt_succ_self _, nodeM_57, nodeM_58, nodeM_59, nodeM_60, RN_keep fM3 a7 hx3, ?_, RN_keep fM3 (Nat.le_refl _) a3, ?_, RN_keep fM (Nat.le_refl _) (RN_keep (g2 nd5) (Nat.le_refl _) e3), ?_⟩
                  · rw [fst_keep fM3 (by omega)]; exact fx3
                  · rw [fst_keep fM3 a6.2]; exact a5.1
                  · rw [fst_keep fM e6.2, fst_keep (g2 nd5) e6.2]; exact e5.1
                have f4 : nodeM v6 nd5 20 X Y Z (v6 61 X) 61 nd5 = fstT u n (.rem x (.sub y z)) := by
                  rw [nodeM_61, fst_keep fr36 (by omega), fx3]
                  rfl
                exact hQ (.rem x (.sub y z)) (i2 + 1) s2 nb r h4 (d' + 1) _ Q lo (nd5 + 1) nd5 (by unfold dN at *; omega) (nodeM_eg hg6) (by omega) r4 trivial ⟨f4, nodeM_62⟩ ⟨by omega, Nat.lt_succ_self _⟩ (hq.mono (fr3.trans fM3 a7) (by omega) (by omega) (by omega))
              · rw [if_neg hk5] at h4
                have h4 : erP i2 = some r := h4
                cases h4
                exact ⟨fun _ => hq v6 g1 (fr3.trans (fr35.trans (g2 nd3) (Nat.le_refl _)) a7), fun c => absurd rfl c⟩
          · -- t[a]
            rw [decide_eq_false hc]
            rw [if_neg hc] at h2
            refine ⟨fun _ => RR.deep (d := 0 + 10) (shuts_29 a1.1 hg.2.2.1 (fun hk5 v6 g1 g2 => ?_) (fun hk5 v6 g1 g2 => ?_)) (by omega), fun c => absurd rfl c⟩
            · rw [if_pos hk5] at h2
              have hk50 : kd u n i1 ≠ 0 ∧ kd u n i1 ≠ 1 := by omega
              have hg6 := a1.next hk50.1 hk50.2 g1 hg.2.2.1 a1.2.2.2
              have i6 := hg6.lt
              refine ⟨fun c => absurd c (by decide), fun _ => ⟨⟨by omega, by omega⟩, ?_⟩⟩
              rw [Int.toNat_natCast]
              refine node_rr g1.2.2.2.2.1 (by omega) ?_
              have fM : EFr nd3 v6 (nodeM v6 nd3 19 X Y (-1) (v6 61 X)) := nodeM_fr (Nat.le_refl _)
              have fM3 : EFr nd3 v3 (nodeM v6 nd3 19 X Y (-1) (v6 61 X)) := (g2 nd3).trans fM (Nat.le_refl _)
              have r4 : RN (nodeM v6 nd3 19 X Y (-1) (v6 61 X)) u n (.div x y) lo (nd3 + 1) nd3 := by
                unfold RN
                refine ⟨nd3, X, Y, nd, rfl, hX.1, hX.2, a6.1, a6.2, Nat.lt_succ_self _, nodeM_57, nodeM_58, nodeM_59, RN_keep fM3 a7 hx3, ?_, RN_keep fM3 (Nat.le_refl _) a3, ?_⟩
                · rw [fst_keep fM3 (by omega)]; exact fx3
                · rw [fst_keep fM3 a6.2]; exact a5.1
              have f4 : nodeM v6 nd3 19 X Y (-1) (v6 61 X) 61 nd3 = fstT u n (.div x y) := by
                rw [nodeM_61, fst_keep (g2 nd3) (by omega), fx3]
                rfl
              exact hQ (.div x y) (i1 + 1) s1 nb r h2 (d' + 1) _ Q lo (nd3 + 1) nd3 (by unfold dN at *; omega) (nodeM_eg hg6) (by omega) r4 trivial ⟨f4, nodeM_62⟩ ⟨by omega, Nat.lt_succ_self _⟩ (hq.mono (fr3.trans fM3 a7) (by omega) (by omega) (by omega))
            · rw [if_neg hk5] at h2
              have h2 : erP i1 = some r := h2
              cases h2
              exact ⟨fun _ => hq v6 g1 (fr3.trans (g2 nd3) a7), fun c => absurd rfl c⟩
      · have hnb : 8 ≤ nb := by
          rcases Nat.lt_or_ge nb 8 with h9 | h9
          · exact absurd ⟨hk, h9⟩ hno
          · exact h9
        rw [if_pos hnb] at hp
        have hp : erP i = some r := hp
        cases hp
        exact ⟨fun _ => hq v2 b1 (fr1.trans (b2 nd) (Nat.le_refl _)), fun c => absurd rfl c⟩
    · rw [if_pos hs] at hp
      have hp : erP i = some r := hp
      cases hp
      refine ⟨fun _ => ?_, fun c => absurd rfl c⟩
      exact hq _ ⟨rfl, hg.1.at⟩ (EFr.fail (EFr.u38 (by omega)))
  · rw [decide_eq_false hk]
    rw [if_neg hk] at hp
    have hp : okP x i sg = some r := hp
    cases hp
    refine ⟨fun _ => ?_, fun c => absurd rfl c⟩
    exact hq v nd X hg (EFr.refl v) hx hxe hx1 hX (Nat.le_refl _) (by dsimp only; omega) (Nat.le_refl _)
