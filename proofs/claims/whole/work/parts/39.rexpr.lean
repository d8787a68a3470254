/-! The reference reads an E: ATOM, and all together. -/
theorem ES.val {v : Mem} {u : Nat → Int} {n i sg nb nd : Nat} (h : ES v u n i sg nb nd) (hk : kd u n i = 3) : v 38 12 = vl u n i := by
  have h1 := h.2.1.2.2.2.2.2.2.2
  rw [h.1] at h1
  exact h1 hk
theorem ES.qlen {v : Mem} {u : Nat → Int} {n i sg nb nd : Nat} (h : ES v u n i sg nb nd) (hk : kd u n i = 4) : w32 (w32 ((v 38 11) - (v 38 10)) - 2) = vl u n i ∧ w32 ((v 38 10) + 1) = (ps u n i : Int) + 1 := by
  have h1 : ln u n i = vl u n i + 2 := by
    have := word_q (b := v 40) (n := n) (p := ps u n i) h.2.1.2.2.1 (by rw [h.1]; exact hk)
    rw [h.1] at this
    unfold ln vl
    omega
  have h2 := wordAt_to (u := u) (b := v 40) (n := n) (i := ps u n i) h.1.symm h.2.1.2.2.1
  have h3 := h.2.1.2.1.1
  have h4 := h.2.1.2.2.1
  have h5 : ln u n i = ((wordAt u n (ps u n i)).2.1 : Int) - (ps u n i : Int) := rfl
  rw [h.len, h.at]
  refine ⟨?_, w32_id (by omega) (by omega)⟩
  rw [w32_id (by omega) (by omega)]
  omega
theorem HA_step {t : Int} {u : Nat → Int} {n f : Nat} (hE : HE t u n f) (h17 : H17 t u n f) : HA t u n (f + 1) := by
  intro x i sg nb r hp d v Q nd hd hg hnd hq
  obtain ⟨d', rfl⟩ : ∃ d', d = d' + 1 := ⟨d - 1, by unfold dN at hd; omega⟩
  have hd20 : 20 ≤ d' := by unfold dN at hd; omega
  have hi := hg.lt
  have hkk := kd_k u n i
  have hp0 := hp
  rw [PE_7] at hp
  refine s_204 ?_
  rw [hg.1.kind]
  refine ⟨fun c => ?_, fun c3 => ⟨fun c => ?_, fun c4 => ⟨fun c => ?_, fun c2 => ?_⟩⟩⟩
  · have hk : kd u n i = 3 := (rk_c hkk (by decide)).mp c
    rw [if_pos (Or.inl hk)] at hp
    have hp : okP (.arg i) (i + 1) sg = some r := hp
    cases hp
    refine node_rr hg.1.2.2.2.2.1 (by omega) ?_
    have hgM : EG (nodeM v nd 1 (v 38 12) 0 0 (v 38 10)) u n i sg nb (nd + 1) := nodeM_eg hg
    refine RR.deep (d := 0 + 8) (nx_es hgM.1 (by omega) (fun v2 b1 b2 => ?_)) (by omega)
    have hg2 := hgM.next (by omega) (by omega) b1 hg.2.2.1 hg.2.2.2
    have e2 : ∀ c j, 57 ≤ c → v2 c j = nodeM v nd 1 (v 38 12) 0 0 (v 38 10) c j := fun c j h => by rw [b2.1 c (by omega)]
    refine hq v2 (nd + 1) nd hg2 ((nodeM_fr (Nat.le_refl _)).trans (EFr.s38 b2) (Nat.le_refl _)) ?_ trivial ⟨by rw [e2 61 nd (by omega), nodeM_61]; exact hg.1.at, by rw [e2 62 nd (by omega)]; exact nodeM_62⟩ ⟨Nat.le_refl _, Nat.lt_succ_self _⟩ (by omega) (by dsimp only; omega) (Nat.le_refl _)
    unfold RN
    refine ⟨nd, rfl, Nat.le_refl _, Nat.lt_succ_self _, fun _ => ⟨by rw [e2 57 nd (by omega)]; exact nodeM_57, by rw [e2 58 nd (by omega), nodeM_58]; exact hg.1.val hk⟩, fun h => by omega, fun h => by omega, Or.inl hk⟩
  · have hk : kd u n i = 4 := (rk_c hkk (by decide)).mp c
    rw [if_pos (Or.inr hk)] at hp
    have hp : okP (.arg i) (i + 1) sg = some r := hp
    cases hp
    obtain ⟨q1, q2⟩ := hg.1.qlen hk
    rw [q1, q2]
    clear q1 q2
    refine node_rr hg.1.2.2.2.2.1 (by omega) ?_
    have hgM : EG (nodeM v nd 2 ((ps u n i : Int) + 1) (vl u n i) 0 (v 38 10)) u n i sg nb (nd + 1) := nodeM_eg hg
    refine RR.deep (d := 0 + 8) (nx_es hgM.1 (by omega) (fun v2 b1 b2 => ?_)) (by omega)
    have hg2 := hgM.next (by omega) (by omega) b1 hg.2.2.1 hg.2.2.2
    have e2 : ∀ c j, 57 ≤ c → v2 c j = nodeM v nd 2 ((ps u n i : Int) + 1) (vl u n i) 0 (v 38 10) c j := fun c j h => by rw [b2.1 c (by omega)]
    refine hq v2 (nd + 1) nd hg2 ((nodeM_fr (Nat.le_refl _)).trans (EFr.s38 b2) (Nat.le_refl _)) ?_ trivial ⟨by rw [e2 61 nd (by omega), nodeM_61]; exact hg.1.at, by rw [e2 62 nd (by omega)]; exact nodeM_62⟩ ⟨Nat.le_refl _, Nat.lt_succ_self _⟩ (by omega) (by dsimp only; omega) (Nat.le_refl _)
    unfold RN
    refine ⟨nd, rfl, Nat.le_refl _, Nat.lt_succ_self _, fun h => by omega, fun _ => ⟨by rw [e2 57 nd (by omega)]; exact nodeM_57, by rw [e2 58 nd (by omega)]; exact nodeM_58, by rw [e2 59 nd (by omega)]; exact nodeM_59⟩, fun h => by omega, Or.inr (Or.inl hk)⟩
  · have hk : kd u n i = 2 := (rk_c hkk (by decide)).mp c
    exact RR.imp (HN_step h17 hk hp0 (by unfold dN at *; omega) hg hnd hq) (fun _ _ h => h)
  · have n3 : ¬ kd u n i = 3 := fun h => c3 ((rk_c hkk (by decide)).mpr h)
    have n4 : ¬ kd u n i = 4 := fun h => c4 ((rk_c hkk (by decide)).mpr h)
    have n2 : ¬ kd u n i = 2 := fun h => c2 ((rk_c hkk (by decide)).mpr h)
    rw [if_neg (by omega), if_neg n2] at hp
    refine RR.deep (d := 0 + 5) (is_7 hg.1.2.1 ?_) (by omega)
    rw [hg.1.ck]
    by_cases h40 : kd u n i = 40
    · rw [decide_eq_true h40]
      rw [if_pos h40] at hp
      refine ⟨fun c => absurd c (by decide), fun _ => ?_⟩
      refine RR.deep (d := 0 + 10) (opens_7 hg.1 hg.2.2.1 (fun _ hnb v3 c1 c2 => ?_) (fun hno v3 c1 c2 => ?_)) (by omega)
      · rw [if_neg (by omega)] at hp
        have hg3 := hg.next (by omega) (by omega) c1 hnb hg.2.2.2
        have fr3 : EFr nd v v3 := c2 nd
        refine ⟨fun c => absurd c (by decide), fun _ => ?_⟩
        rcases bnd_some hp with ⟨j, h1, rfl⟩ | ⟨y, i1, s1, h1, h2⟩
        · refine hE 0 x (i + 1) sg (nb + 1) _ (by omega) h1 d' v3 _ nd (by unfold dN at *; omega) hg3 (by omega) ?_
          intro v4 a1 a2
          exact ⟨fun _ => hq v4 a1 (fr3.trans a2 (Nat.le_refl _)), fun c => absurd (by decide) c⟩
        · refine hE 0 x (i + 1) sg (nb + 1) _ (by omega) h1 d' v3 _ nd (by unfold dN at *; omega) hg3 (by omega) ?_
          intro v4 nd4 Y a1 a2 a3 a4 a5 a6 a7 a8 a9
          dsimp only at a1 a3 a4 a5 a8 a9
          have i4 := a1.lt
          have fr4 : EFr nd v v4 := fr3.trans a2 (Nat.le_refl _)
          refine ⟨fun c => absurd c int_nn, fun _ => ?_⟩
          refine RR.deep (d := 0 + 10) (shuts_8 a1.1 hg.2.2.1 (fun hk5 v6 g1 g2 => ?_) (fun hk5 v6 g1 g2 => ?_)) (by omega)
          · rw [if_pos hk5] at h2
            have h2 : okP (.elem (.arg i) y) (i1 + 1) s1 = some r := h2
            cases h2
            have hg6 := a1.next (by omega) (by omega) g1 hg.2.2.1 a1.2.2.2
            refine ⟨fun c => absurd c (by decide), fun _ => ⟨⟨by omega, by omega⟩, ?_⟩⟩
            rw [Int.toNat_natCast]
            have e6 : ∀ c j, 57 ≤ c → ¬ (c = 61 ∧ j = Y) → up v6 61 Y (v 38 10) c j = v4 c j := fun c j h h' => by
              rw [upc_ne h', EFr.all g2 c j h]
            refine hq _ nd4 Y ⟨hg6.1.same rfl (fun j hj => by rw [up_ne (by decide)]) hg6.1.2.2.1 hg6.1.2.2.2.1 hg6.1.2.2.2.2.1 hg6.1.2.2.2.2.2, hg6.2⟩ ((fr4.trans (g2 nd) (Nat.le_refl _)).trans (EFr.upc (by omega) a6.1) (Nat.le_refl _)) ?_ a4 ⟨?_, ?_⟩ a6 a7 (by dsimp only; omega) (by dsimp only; omega)
            · unfold RN
              exact RN_top _ y (Nat.lt_succ_self _) nd nd4 Y (fun c j h1 h2 h3 h4 h5 => e6 c j h1 (by omega)) a4 a3
            · rw [up_k]; exact hg.1.at
            · rw [e6 62 Y (by omega) (by omega)]; exact a5.2
          · rw [if_neg hk5] at h2
            have h2 : erP i1 = some r := h2
            cases h2
            exact ⟨fun _ => hq v6 g1 (fr4.trans (g2 nd) (Nat.le_refl _)), fun c => absurd rfl c⟩
      · have hnb : 8 ≤ nb := by
          rcases Nat.lt_or_ge nb 8 with h9 | h9
          · exact absurd ⟨h40, h9⟩ hno
          · exact h9
        rw [if_pos hnb] at hp
        have hp : erP i = some r := hp
        cases hp
        exact ⟨fun _ => hq v3 c1 (c2 nd), fun c => absurd rfl c⟩
    · rw [decide_eq_false h40]
      rw [if_neg h40] at hp
      refine ⟨fun _ => RR.deep (d := 0 + 5) (is_24 hg.1.2.1 ?_) (by omega), fun c => absurd rfl c⟩
      rw [hg.1.ck]
      by_cases h18 : kd u n i = 18
      · rw [decide_eq_true h18]
        exact ⟨fun c => absurd c (by decide), fun _ => ATF hE (Or.inl (Or.inl ⟨h18, rfl⟩)) hp0 hd hg hnd hq⟩
      · rw [decide_eq_false h18]
        refine ⟨fun _ => RR.deep (d := 0 + 5) (is_25 hg.1.2.1 ?_) (by omega), fun c => absurd rfl c⟩
        rw [hg.1.ck]
        by_cases h14 : kd u n i = 14
        · rw [decide_eq_true h14]
          exact ⟨fun c => absurd c (by decide), fun _ => ATF hE (Or.inr ⟨h14, rfl⟩) hp0 hd hg hnd hq⟩
        · rw [decide_eq_false h14]
          refine ⟨fun _ => RR.deep (d := 0 + 5) (is_26 hg.1.2.1 ?_) (by omega), fun c => absurd rfl c⟩
          rw [hg.1.ck]
          by_cases h11 : kd u n i = 11
          · rw [decide_eq_true h11]
            exact ⟨fun c => absurd c (by decide), fun _ => ATF hE (Or.inl (Or.inr (Or.inl ⟨h11, rfl⟩))) hp0 hd hg hnd hq⟩
          · rw [decide_eq_false h11]
            refine ⟨fun _ => RR.deep (d := 0 + 5) (is_27 hg.1.2.1 ?_) (by omega), fun c => absurd rfl c⟩
            rw [hg.1.ck]
            by_cases h23 : kd u n i = 23
            · rw [decide_eq_true h23]
              exact ⟨fun c => absurd c (by decide), fun _ => ATF hE (Or.inl (Or.inr (Or.inr ⟨h23, rfl⟩))) hp0 hd hg hnd hq⟩
            · rw [decide_eq_false h23]
              rw [if_neg (by omega), if_neg h14] at hp
              have hp : erP i = some r := hp
              cases hp
              refine ⟨fun _ => s_204_198 ⟨fun _ => ?_, fun c => absurd rfl c⟩, fun c => absurd rfl c⟩
              rw [m194 hg.1.2.2.2.2.2]
              exact hq _ ⟨rfl, hg.1.at⟩ (EFr.fail (EFr.refl v))
/-- the reference reads an E as the grammar says -/
theorem CE_all (t : Int) (u : Nat → Int) (n : Nat) : ∀ f, HE t u n f ∧ HF t u n f ∧ HP t u n f ∧ HA t u n f ∧ HL t u n f ∧ HQ t u n f ∧ H17 t u n f := by
  intro f
  induction f with
  | zero =>
    refine ⟨fun l x i sg nb r _ h => ?_, fun x i sg nb r h => ?_, fun x i sg nb r h => ?_, fun x i sg nb r h => ?_, fun l x i sg nb r _ h => ?_, fun x i sg nb r h => ?_, fun x i sg nb r h => ?_⟩ <;> cases h
  | succ f ih =>
    obtain ⟨h1, h2, h3, h4, h5, h6, h7⟩ := ih
    have hF := HF_step h2 h3
    exact ⟨HE_step h1 h5 hF, hF, HP_step h4 h6, HA_step h1 h7, HL_step h1 h5, HQ_step h1 h6, H17_step h1 h7⟩
