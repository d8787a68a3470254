/-! The reference reads S and BLOCK: any S. -/
/-- NAME = E ; from the NAME (word p) on -/
theorem st229 {t : Int} {u : Nat → Int} {n f i p st dp sc nd : Nat} {r : Except Nat (Jvm.Term × Nat × Nat × Nat)} {v v5 : Mem} {Q : Int → Mem → Prop} {d' : Nat} {l1 : Int} (hd : 490 ≤ d') (hst : st < 300) (hsc : sc ≤ 30) (hl1 : l1 = skd (kd u n i)) (hl : kd u n i = 19 ∧ sc < 30 ∧ p = i + 1 ∨ kd u n i = 2 ∧ p = i) (hkp : kd u n p = 2)
    (hg : SG v5 u n p (st + 1) (dp + 1) sc nd) (hf : SFr nd st v v5) (a49 : v5 49 st = skd (kd u n i)) (a53 : v5 53 st = -1) (a54 : v5 54 st = -1) (a55 : v5 55 st = -1)
    (hr : (if kd u n (p + 1) = 61 then bndE (PE (kd u n) f 0 .null (p + 2) 0 0) (fun e i1 => if kd u n i1 = 59 then okQ (stm i e .null .thrown) (i1 + 1) (st + 1) (if kd u n i = 19 then sc + 1 else sc) else erQ i1) else erQ (p + 1)) = some r) (hq : PoS Q v u n st dp nd i r) :
    LL t (d' + 1) 208 229 [(2, 38), (0, l1), (0, (st : Int))] [] v5 Q := by
  have gd0 : (0 : Int) ≤ (st : Int) ∧ (st : Int) < 300 := ⟨by omega, by omega⟩
  have hl3 : ¬ l1 = 3 := by rw [hl1]; rcases hl with h | h <;> (rw [h.1]; decide)
  have hl4 : ¬ l1 = 4 := by rw [hl1]; rcases hl with h | h <;> (rw [h.1]; decide)
  refine s_208_229 ?_
  rw [Int.toNat_natCast]
  obtain ⟨sg, nb, he⟩ := hg.1
  rw [he.len, he.at]
  refine ⟨gd0, gd0, ?_⟩
  have hg1 : SG (up (up v5 50 st (ps u n p : Nat)) 51 st (ln u n p)) u n p (st + 1) (dp + 1) sc nd := hg.upd rfl (fun k _ => rfl) hg.2.2.2.1 hg.2.2.2.2.1 hg.2.2.2.2.2
  have f1 : SFr nd st v (up (up v5 50 st (ps u n p : Nat)) 51 st (ln u n p)) := (hf.trans (SFr.ups (by omega) (Nat.le_refl _)) (Nat.le_refl _) (Nat.le_refl _)).trans (SFr.ups (by omega) (Nat.le_refl _)) (Nat.le_refl _) (Nat.le_refl _)
  have b49 : up (up v5 50 st (ps u n p : Nat)) 51 st (ln u n p) 49 st = skd (kd u n i) := by rw [upc_ne (by omega), upc_ne (by omega)]; exact a49
  have b50 : up (up v5 50 st (ps u n p : Nat)) 51 st (ln u n p) 50 st = (ps u n p : Nat) := by rw [upc_ne (by omega)]; exact up_k
  have b51 : up (up v5 50 st (ps u n p : Nat)) 51 st (ln u n p) 51 st = ln u n p := up_k
  have b53 : up (up v5 50 st (ps u n p : Nat)) 51 st (ln u n p) 53 st = -1 := by rw [upc_ne (by omega), upc_ne (by omega)]; exact a53
  have b54 : up (up v5 50 st (ps u n p : Nat)) 51 st (ln u n p) 54 st = -1 := by rw [upc_ne (by omega), upc_ne (by omega)]; exact a54
  have b55 : up (up v5 50 st (ps u n p : Nat)) 51 st (ln u n p) 55 st = -1 := by rw [upc_ne (by omega), upc_ne (by omega)]; exact a55
  generalize up (up v5 50 st (ps u n p : Nat)) 51 st (ln u n p) = w at *
  obtain ⟨sg1, nb1, he1⟩ := hg1.1
  refine RR.deep (d := 0 + 8) (nx_es he1 (by omega) (fun v6 c1 c2 => ?_)) (by omega)
  have hg6 := hg1.next he1 (by omega) (by omega) c1 (Nat.le_refl _) (st' := st + 1) (dp' := dp + 1) (sc' := sc) (by rw [c2.2 22 (by omega)]; exact hg1.2.2.2.1) (by rw [c2.2 40 (by omega)]; exact hg1.2.2.2.2.1) (by rw [c2.2 41 (by omega)]; exact hg1.2.2.2.2.2)
  have f6 : SFr nd st v v6 := f1.trans (SFr.efr (EFr.s38 c2)) (Nat.le_refl _) (Nat.le_refl _)
  have e6 : ∀ c j, 49 ≤ c → v6 c j = w c j := fun c j h => by rw [c2.1 c (by omega)]
  refine RR.deep (d := 0 + 9) (take_21 c1 (fun hk v7 d1 d2 => ?_) (fun hk v7 d1 d2 => ?_)) (by omega)
  · rw [if_pos hk] at hr
    refine ⟨fun c => absurd c (by decide), fun _ => ?_⟩
    have hg7 := hg6.next c1 (by omega) (by omega) d1 (Nat.le_refl _) (st' := st + 1) (dp' := dp + 1) (sc' := sc) (by rw [d2.2 22 (by omega)]; exact hg6.2.2.2.1) (by rw [d2.2 40 (by omega)]; exact hg6.2.2.2.2.1) (by rw [d2.2 41 (by omega)]; exact hg6.2.2.2.2.2)
    have f7 : SFr nd st v v7 := f6.trans (SFr.efr (EFr.s38 d2)) (Nat.le_refl _) (Nat.le_refl _)
    have e7 : ∀ c j, 49 ≤ c → v7 c j = w c j := fun c j h => by rw [d2.1 c (by omega)]; exact e6 c j h
    rcases bndE_some hr with ⟨j, h1, rfl⟩ | ⟨e, i1, s1, h1, h2⟩
    · refine whole_rr h1 (by omega) hg7 ?_
      intro v8 g1 g2
      refine ⟨gd0, gd0, fun _ => ?_, fun c => absurd (show up v8 52 st (-1) 52 st < 0 by rw [up_k]; decide) c⟩
      exact hq _ g1 ((f7.trans (SFr.efr g2) (Nat.le_refl _) (Nat.le_refl _)).trans (SFr.ups (by omega) (Nat.le_refl _)) (Nat.le_refl _) (Nat.le_refl _))
    · refine whole_rr h1 (by omega) hg7 ?_
      intro v8 nd8 X g1 g2 g3 g4 g5 g6 g7 g8
      dsimp only at g1 g3 g4 g5 g7 g8
      refine ⟨gd0, gd0, fun c => absurd c (by rw [up_k]; exact int_nn), fun _ => ⟨fun c => absurd c hl3, fun _ => ⟨fun c => absurd c hl4, fun _ => ?_⟩⟩⟩
      have e8 : ∀ c, 49 ≤ c → c ≤ 55 → v8 c st = w c st := fun c h h' => by
        rw [g2.1 c st (by omega) (by omega)]; exact e7 c st h
      refine st_semi (by omega) hst hsc hl1 (fun h => by omega) (fun h => by omega) g1 (f7.trans (SFr.efr g2) (Nat.le_refl _) (Nat.le_refl _)) g3 g4 g5 g6 ?_ ?_ ?_ ?_ (fun h => ?_) (fun h => ?_) (by omega) (by omega) h2 hq
      · rw [e8 49 (by omega) (by omega)]; exact b49
      · rw [e8 53 (by omega) (by omega)]; exact b53
      · rw [e8 54 (by omega) (by omega)]; exact b54
      · rw [e8 55 (by omega) (by omega)]; exact b55
      · have hp : p = i + 1 := by omega
        subst hp
        rw [e8 50 (by omega) (by omega), e8 51 (by omega) (by omega)]
        exact ⟨b50, b51⟩
      · have hp : p = i := by omega
        subst hp
        rw [e8 50 (by omega) (by omega), e8 51 (by omega) (by omega)]
        exact ⟨b50, b51⟩
  · rw [if_neg hk] at hr
    have hr : erQ (p + 1) = some r := hr
    cases hr
    exact ⟨fun _ => hq v7 d1 (f6.trans (SFr.efr (d2 nd)) (Nat.le_refl _) (Nat.le_refl _)), fun c => absurd rfl c⟩
theorem skd_c {k : Int} (h : ¬ skd k = 0) : k = 19 ∨ k = 2 ∨ k = 16 ∨ k = 25 ∨ k = 22 ∨ k = 21 ∨ k = 12 := by
  unfold skd at h
  split at h
  · omega
  · split at h
    · omega
    · split at h
      · omega
      · split at h
        · omega
        · split at h
          · omega
          · split at h
            · omega
            · split at h
              · omega
              · exact absurd rfl h
theorem st99 {t : Int} {u : Nat → Int} {n f i st dp sc nd : Nat} {r : Except Nat (Jvm.Term × Nat × Nat × Nat)} {v : Mem} {Q : Int → Mem → Prop} {d' : Nat} (hB : HB t u n f) (hp : PS (kd u n) (f + 1) 2 i st dp sc = some r) (hd : dS dp 3 ≤ d' + 1) (hg : SG v u n i st (dp + 1) sc nd) (hst : st ≤ 300) (hsc : sc ≤ 30) (hq : PoS Q v u n st dp nd i r) : LL t (d' + 1) 208 99 [(2, 38), (3, 0), (3, 0)] [(0, skd (kd u n i))] v Q := by
  have hd20 : 490 ≤ d' := by unfold dS at hd; omega
  obtain ⟨sg, nb, he⟩ := hg.1
  rw [PS_2] at hp
  have fail : (skd (kd u n i) = 0 ∨ 300 ≤ st ∨ 8 ≤ dp) → Q (-1) (m_194 (v 38 10) v) := by
    intro h
    rw [if_pos h] at hp
    have hp : erQ i = some r := hp
    cases hp
    rw [m194 he.2.2.2.2.2]
    exact hq _ ⟨rfl, he.at⟩ ((SFr.u38 (by omega)).trans (SFr.u38 (by omega)) (Nat.le_refl _) (Nat.le_refl _))
  refine s_208_99 ?_
  rw [hg.2.2.2.1, hg.2.2.2.2.1]
  refine ⟨fun c => fail (Or.inl c), fun c0 => ⟨fun c => fail (Or.inr (Or.inl (by omega))), fun c1 => ⟨fun c => fail (Or.inr (Or.inr (by omega))), fun c2 => ?_⟩⟩⟩
  have hst' : st < 300 := by omega
  have hdp : dp < 8 := by omega
  have gd0 : (0 : Int) ≤ (st : Int) ∧ (st : Int) < 300 := ⟨by omega, by omega⟩
  rw [if_neg (by omega)] at hp
  have hkc := skd_c c0
  refine ⟨gd0, gd0, gd0, gd0, ?_⟩
  rw [Int.toNat_natCast, wS hst' (by decide)]
  have hg1 : SG (up (up (up (up (up v 38 22 ((st + 1 : Nat) : Int)) 49 st (skd (kd u n i))) 55 st (-1)) 53 st (-1)) 54 st (-1)) u n i (st + 1) (dp + 1) sc nd := hg.upd rfl (fun k hk => by
    show (if k = 22 then _ else v 38 k) = v 38 k
    rw [if_neg (by omega)]) rfl hg.2.2.2.2.1 hg.2.2.2.2.2
  have f1 : SFr nd st v (up (up (up (up (up v 38 22 ((st + 1 : Nat) : Int)) 49 st (skd (kd u n i))) 55 st (-1)) 53 st (-1)) 54 st (-1)) := ((((SFr.u38 (by omega)).trans (SFr.ups (by omega) (Nat.le_refl _)) (Nat.le_refl _) (Nat.le_refl _)).trans (SFr.ups (by omega) (Nat.le_refl _)) (Nat.le_refl _) (Nat.le_refl _)).trans (SFr.ups (by omega) (Nat.le_refl _)) (Nat.le_refl _) (Nat.le_refl _)).trans (SFr.ups (by omega) (Nat.le_refl _)) (Nat.le_refl _) (Nat.le_refl _)
  have b49 : up (up (up (up (up v 38 22 ((st + 1 : Nat) : Int)) 49 st (skd (kd u n i))) 55 st (-1)) 53 st (-1)) 54 st (-1) 49 st = skd (kd u n i) := by rw [upc_ne (by omega), upc_ne (by omega), upc_ne (by omega)]; exact up_k
  have b53 : up (up (up (up (up v 38 22 ((st + 1 : Nat) : Int)) 49 st (skd (kd u n i))) 55 st (-1)) 53 st (-1)) 54 st (-1) 53 st = -1 := by rw [upc_ne (by omega)]; exact up_k
  have b54 : up (up (up (up (up v 38 22 ((st + 1 : Nat) : Int)) 49 st (skd (kd u n i))) 55 st (-1)) 53 st (-1)) 54 st (-1) 54 st = -1 := up_k
  have b55 : up (up (up (up (up v 38 22 ((st + 1 : Nat) : Int)) 49 st (skd (kd u n i))) 55 st (-1)) 53 st (-1)) 54 st (-1) 55 st = -1 := by rw [upc_ne (by omega), upc_ne (by omega)]; exact up_k
  generalize up (up (up (up (up v 38 22 ((st + 1 : Nat) : Int)) 49 st (skd (kd u n i))) 55 st (-1)) 53 st (-1)) 54 st (-1) = w at *
  obtain ⟨sg1, nb1, he1⟩ := hg1.1
  by_cases k2 : kd u n i = 2
  · have hs2 : skd (kd u n i) = 2 := by rw [k2]; decide
    rw [if_neg (by omega), if_pos k2] at hp
    refine ⟨fun _ => ?_, fun c => absurd hs2 c⟩
    refine s_208_186 ⟨fun c => absurd c (by omega), fun _ => ⟨fun _ => ?_, fun c => absurd hs2 c⟩⟩
    refine s_208_196 ?_
    rw [he1.kind]
    refine ⟨fun _ => ⟨fun c => absurd c (by omega), fun _ => ?_⟩, fun c => absurd (by rw [k2]; decide) c⟩
    refine st229 (p := i) (f := f) hd20 hst' hsc rfl (Or.inr ⟨k2, rfl⟩) k2 hg1 f1 b49 b53 b54 b55 ?_ hq
    rw [if_neg (show ¬ kd u n i = 19 by omega)]
    exact hp
  · refine ⟨fun c => ?_, fun _ => ?_⟩
    · exfalso
      rcases hkc with h | h | h | h | h | h | h
      all_goals first | exact k2 h | (rw [h] at c; exact absurd c (by decide))
    · refine RR.deep (d := 0 + 8) (nx_es he1 (by omega) (fun v5 d1 d2 => ?_)) (by omega)
      have hg5 := hg1.next he1 (by omega) (by omega) d1 (Nat.le_refl _) (st' := st + 1) (dp' := dp + 1) (sc' := sc) (by rw [d2.2 22 (by omega)]; exact hg1.2.2.2.1) (by rw [d2.2 40 (by omega)]; exact hg1.2.2.2.2.1) (by rw [d2.2 41 (by omega)]; exact hg1.2.2.2.2.2)
      have f5 : SFr nd st v v5 := f1.trans (SFr.efr (EFr.s38 d2)) (Nat.le_refl _) (Nat.le_refl _)
      have e5 : ∀ c j, 49 ≤ c → v5 c j = w c j := fun c j h => by rw [d2.1 c (by omega)]
      by_cases k19 : kd u n i = 19
      · have hs1 : skd (kd u n i) = 1 := by rw [k19]; decide
        rw [if_pos k19] at hp
        refine s_208_186 ⟨fun _ => s_208_196 ?_, fun c => absurd hs1 c⟩
        rw [d1.kind, hg5.2.2.2.2.2]
        have bad : ¬ (kd u n (i + 1) = 2 ∧ sc < 30) → Q (-1) (m_194 (v5 38 10) v5) := by
          intro h
          rw [if_neg h] at hp
          have hp : erQ (i + 1) = some r := hp
          cases hp
          rw [m194 d1.2.2.2.2.2]
          exact hq _ ⟨rfl, d1.at⟩ ((f5.trans (SFr.u38 (by omega)) (Nat.le_refl _) (Nat.le_refl _)).trans (SFr.u38 (by omega)) (Nat.le_refl _) (Nat.le_refl _))
        refine ⟨fun c => ⟨fun _ => ⟨fun c30 => bad (by omega), fun c30 => ?_⟩, fun c => absurd hs1 c⟩, fun c => bad (fun h => c ((rk_c (kd_k u n (i + 1)) (by decide)).mpr h.1))⟩
        have hk2 : kd u n (i + 1) = 2 := (rk_c (kd_k u n (i + 1)) (by decide)).mp c
        rw [if_pos ⟨hk2, by omega⟩] at hp
        refine st229 (p := i + 1) (f := f) hd20 hst' hsc rfl (Or.inl ⟨k19, by omega, rfl⟩) hk2 hg5 f5 (by rw [e5 49 st (by omega)]; exact b49) (by rw [e5 53 st (by omega)]; exact b53) (by rw [e5 54 st (by omega)]; exact b54) (by rw [e5 55 st (by omega)]; exact b55) ?_ hq
        rw [if_pos k19]
        exact hp
      · rw [if_neg k19, if_neg k2] at hp
        have hs1 : ¬ skd (kd u n i) = 1 := by
          rcases hkc with h | h | h | h | h | h | h
          all_goals first | exact absurd h k19 | exact absurd h k2 | (rw [h]; decide)
        have hs2 : ¬ skd (kd u n i) = 2 := by
          rcases hkc with h | h | h | h | h | h | h
          all_goals first | exact absurd h k19 | exact absurd h k2 | (rw [h]; decide)
        refine s_208_186 ⟨fun c => absurd c hs1, fun _ => ⟨fun c => absurd c hs2, fun _ => ?_⟩⟩
        rw [Int.toNat_natCast]
        rcases bndE_some hp with ⟨j, h1, rfl⟩ | ⟨e, i1, s1, h1, h2⟩
        · refine whole_rr h1 (by omega) hg5 ?_
          intro v8 g1 g2
          refine ⟨gd0, gd0, fun _ => ?_, fun c => absurd (show up v8 52 st (-1) 52 st < 0 by rw [up_k]; decide) c⟩
          exact hq _ g1 ((f5.trans (SFr.efr g2) (Nat.le_refl _) (Nat.le_refl _)).trans (SFr.ups (by omega) (Nat.le_refl _)) (Nat.le_refl _) (Nat.le_refl _))
        · refine whole_rr h1 (by omega) hg5 ?_
          intro v8 nd8 X g1 g2 g3 g4 g5 g6 g7 g8
          dsimp only at g1 g3 g4 g5 g7 g8
          have f8 : SFr nd st v v8 := f5.trans (SFr.efr g2) (Nat.le_refl _) (Nat.le_refl _)
          have e8 : ∀ c, 49 ≤ c → c ≤ 55 → v8 c st = w c st := fun c h h' => by
            rw [g2.1 c st (by omega) (by omega)]; exact e5 c st h
          have q49 : v8 49 st = skd (kd u n i) := by rw [e8 49 (by omega) (by omega)]; exact b49
          have q53 : v8 53 st = -1 := by rw [e8 53 (by omega) (by omega)]; exact b53
          have q54 : v8 54 st = -1 := by rw [e8 54 (by omega) (by omega)]; exact b54
          have q55 : v8 55 st = -1 := by rw [e8 55 (by omega) (by omega)]; exact b55
          refine ⟨gd0, gd0, fun c => absurd c (by rw [up_k]; exact int_nn), fun _ => ⟨fun c3 => ?_, fun c3 => ⟨fun c4 => ?_, fun c4 => ?_⟩⟩⟩
          · have k16 : kd u n i = 16 := by
              rcases hkc with h | h | h | h | h | h | h
              all_goals first | exact h | exact absurd h k19 | exact absurd h k2 | (rw [h] at c3; exact absurd c3 (by decide))
            rw [if_pos (Or.inl k16)] at h2
            exact RR.imp (st_blk hB (by unfold dS at *; omega) hdp hst' hsc (Or.inl ⟨k16, c3⟩) g1 f8 g3 g4 g5 g6 q49 q54 q55 (by omega) (by omega) h2 hq) (fun _ _ h => h)
          · have k25 : kd u n i = 25 := by
              rcases hkc with h | h | h | h | h | h | h
              all_goals first | exact h | exact absurd h k19 | exact absurd h k2 | (rw [h] at c4; exact absurd c4 (by decide))
            rw [if_pos (Or.inr k25)] at h2
            exact RR.imp (st_blk hB (by unfold dS at *; omega) hdp hst' hsc (Or.inr ⟨k25, c4⟩) g1 f8 g3 g4 g5 g6 q49 q54 q55 (by omega) (by omega) h2 hq) (fun _ _ h => h)
          · have n16 : ¬ (kd u n i = 16 ∨ kd u n i = 25) := by
              intro h
              rcases h with h | h
              · exact c3 (by rw [h]; decide)
              · exact c4 (by rw [h]; decide)
            rw [if_neg n16] at h2
            refine st_semi (by omega) hst' hsc rfl (fun h => absurd h k19) n16 g1 f8 g3 g4 g5 g6 q49 q53 q54 q55 (fun h => absurd h k19) (fun h => absurd h k2) (by omega) (by omega) ?_ hq
            rw [if_neg k19]
            exact h2
theorem HS_step {t : Int} {u : Nat → Int} {n f : Nat} (hB : HB t u n f) : HS t u n (f + 1) := by
  intro i st dp sc r hp d v Q nd hd hg hst hsc hdp hq
  obtain ⟨d', rfl⟩ : ∃ d', d = d' + 1 := ⟨d - 1, by unfold dS at hd; omega⟩
  have hd20 : 20 ≤ d' := by unfold dS at hd; omega
  have h99 := st99 hB hp hd hg hst hsc hq
  obtain ⟨sg, nb, he⟩ := hg.1
  refine s_208 (RR.deep (d := 0 + 5) (is_15 he.2.1 ?_) (by omega))
  rw [he.ck, he.kind]
  by_cases k1 : kd u n i = 19
  · rw [decide_eq_true k1]
    rw [k1] at h99
    exact ⟨fun c => absurd c (by decide), fun _ => h99⟩
  rw [decide_eq_false k1]
  refine ⟨fun _ => ⟨fun c => ?_, fun c2 => ?_⟩, fun c => absurd rfl c⟩
  · have k2 : kd u n i = 2 := (rk_c (kd_k u n i) (by decide)).mp c
    rw [k2] at h99
    exact h99
  have k2 : ¬ kd u n i = 2 := fun h => c2 ((rk_c (kd_k u n i) (by decide)).mpr h)
  refine RR.deep (d := 0 + 5) (is_16 he.2.1 ?_) (by omega)
  rw [he.ck]
  by_cases k3 : kd u n i = 16
  · rw [decide_eq_true k3]
    rw [k3] at h99
    exact ⟨fun c => absurd c (by decide), fun _ => h99⟩
  rw [decide_eq_false k3]
  refine ⟨fun _ => RR.deep (d := 0 + 5) (is_17 he.2.1 ?_) (by omega), fun c => absurd rfl c⟩
  rw [he.ck]
  by_cases k4 : kd u n i = 25
  · rw [decide_eq_true k4]
    rw [k4] at h99
    exact ⟨fun c => absurd c (by decide), fun _ => h99⟩
  rw [decide_eq_false k4]
  refine ⟨fun _ => RR.deep (d := 0 + 5) (is_18 he.2.1 ?_) (by omega), fun c => absurd rfl c⟩
  rw [he.ck]
  by_cases k5 : kd u n i = 22
  · rw [decide_eq_true k5]
    rw [k5] at h99
    exact ⟨fun c => absurd c (by decide), fun _ => h99⟩
  rw [decide_eq_false k5]
  refine ⟨fun _ => RR.deep (d := 0 + 5) (is_19 he.2.1 ?_) (by omega), fun c => absurd rfl c⟩
  rw [he.ck]
  by_cases k6 : kd u n i = 21
  · rw [decide_eq_true k6]
    rw [k6] at h99
    exact ⟨fun c => absurd c (by decide), fun _ => h99⟩
  rw [decide_eq_false k6]
  refine ⟨fun _ => RR.deep (d := 0 + 5) (is_20 he.2.1 ?_) (by omega), fun c => absurd rfl c⟩
  rw [he.ck]
  by_cases k7 : kd u n i = 12
  · rw [decide_eq_true k7]
    rw [k7] at h99
    exact ⟨fun c => absurd c (by decide), fun _ => h99⟩
  rw [decide_eq_false k7]
  have h0 : skd (kd u n i) = 0 := by
    unfold skd
    rw [if_neg k1, if_neg k2, if_neg k3, if_neg k4, if_neg k5, if_neg k6, if_neg k7]
  rw [h0] at h99
  exact ⟨fun _ => h99, fun c => absurd rfl c⟩
