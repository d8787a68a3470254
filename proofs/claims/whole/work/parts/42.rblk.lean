/-! The reference reads S and BLOCK: the BLOCKs of an S. -/
theorem PS0_sc {K : Nat → Int} {f i st dp sc i' st' sc' : Nat} {l : Jvm.Term} (h : PS K f 0 i st dp sc = some (.ok (l, i', st', sc'))) : sc' = sc := by
  cases f with
  | zero => cases h
  | succ f =>
    rw [PS_0] at h
    split at h
    · rcases bndS_some h with ⟨j, h1, h2⟩ | ⟨e, i1, st1, sc1, h1, h2⟩
      · cases h2
      · have h2 : okQ e i1 st1 sc = some (.ok (l, i', st', sc')) := h2
        cases h2
        rfl
    · cases h
theorem st_blk {t : Int} {u : Nat → Int} {n f i i1 st dp sc nd nd3 X : Nat} {e : Jvm.Term} {r : Except Nat (Jvm.Term × Nat × Nat × Nat)} {v v3 : Mem} {Q : Int → Mem → Prop} {d' : Nat} {l1 : Int} (hB : HB t u n f) (hd : dS dp 2 ≤ d') (hdp : dp < 8) (hst : st < 300) (hsc : sc ≤ 30) (hk3 : kd u n i = 16 ∧ l1 = 3 ∨ kd u n i = 25 ∧ l1 = 4)
    (hg : SG v3 u n i1 (st + 1) (dp + 1) sc nd3) (hf : SFr nd st v v3) (hr3 : RN v3 u n e nd nd3 X) (hE : isE e) (hf1 : v3 61 X = fstT u n e) (hX : nd ≤ X ∧ X < nd3) (a49 : v3 49 st = skd (kd u n i)) (a54 : v3 54 st = -1) (a55 : v3 55 st = -1) (hii : i ≤ i1) (hnd : nd3 + i ≤ nd + i1)
    (hr : bndS (PS (kd u n) f 0 i1 (st + 1) (dp + 1) sc) (fun b i2 st2 _ => if kd u n i = 16 ∧ kd u n i2 = 13 then bndS (PS (kd u n) f 0 (i2 + 1) st2 (dp + 1) sc) (fun c i3 st3 _ => okQ (stm i e b c) i3 st3 sc) else okQ (stm i e b .thrown) i2 st2 sc) = some r) (hq : PoS Q v u n st dp nd i r) :
    RR t d' 209 [(2, 38), (0, (st : Int)), (0, l1)] (up v3 52 st X) Q := by
  obtain ⟨d, rfl⟩ : ∃ d, d' = d + 1 := ⟨d' - 1, by unfold dS at hd; omega⟩
  have hd20 : 20 ≤ d := by unfold dS at hd; omega
  have hg' : SG (up v3 52 st X) u n i1 (st + 1) (dp + 1) sc nd3 := hg.upd rfl (fun k _ => rfl) hg.2.2.2.1 hg.2.2.2.2.1 hg.2.2.2.2.2
  have hf' : SFr nd st v (up v3 52 st X) := hf.trans (SFr.ups (by omega) (Nat.le_refl _)) (Nat.le_refl _) (Nat.le_refl _)
  have w49 : up v3 52 st X 49 st = skd (kd u n i) := by rw [upc_ne (by omega)]; exact a49
  have w52 : up v3 52 st X 52 st = X := up_k
  have w54 : up v3 52 st X 54 st = -1 := by rw [upc_ne (by omega)]; exact a54
  have w55 : up v3 52 st X 55 st = -1 := by rw [upc_ne (by omega)]; exact a55
  have wr : RN (up v3 52 st X) u n e nd nd3 X := RN_same _ _ (Nat.lt_succ_self _) _ _ _ (fun c j c1 c2 c3 c4 => by rw [upc_ne (by omega)]) hr3
  have wf : up v3 52 st X 61 X = fstT u n e := by rw [upc_ne (by omega)]; exact hf1
  generalize up v3 52 st X = w at *
  have gd0 : (0 : Int) ≤ (st : Int) ∧ (st : Int) < 300 := ⟨by omega, by omega⟩
  refine s_209 ?_
  rw [Int.toNat_natCast]
  rcases bndS_some hr with ⟨j, h1, rfl⟩ | ⟨b, i2, st2, sc2, h1, h2⟩
  · refine hB i1 (st + 1) (dp + 1) sc _ h1 d w _ nd3 (by unfold dS at *; omega) hg' (by omega) hsc (by omega) ?_
    intro v1 a1 a2
    refine ⟨gd0, gd0, fun _ => ?_, fun c => absurd up_k c⟩
    exact hq _ a1 ((hf'.trans (a2.less (by omega) (by omega)) (Nat.le_refl _) (Nat.le_refl _)).trans (SFr.ups (by omega) (Nat.le_refl _)) (Nat.le_refl _) (Nat.le_refl _))
  · have e2 := PS0_sc h1
    subst e2
    refine hB i1 (st + 1) (dp + 1) sc2 _ h1 d w _ nd3 (by unfold dS at *; omega) hg' (by omega) hsc (by omega) ?_
    intro v1 nd4 x a1 a2 a3 a4 a5 a6 a7 a8 a9
    dsimp only at a1 a3 a6 a7 a8 a9
    have e1 : ∀ c, 49 ≤ c → c ≤ 55 → ¬ c = 53 → up v1 53 st x c st = w c st := fun c h h' h2 => by
      rw [upc_ne (by omega)]
      exact a2.1 c st (by omega) (by omega)
    have g1 : SG (up v1 53 st x) u n i2 st2 (dp + 1) sc2 nd4 := a1.upd rfl (fun k _ => rfl) a1.2.2.2.1 a1.2.2.2.2.1 a1.2.2.2.2.2
    have f1 : SFr nd st v (up v1 53 st x) := (hf'.trans (a2.less (by omega) (by omega)) (Nat.le_refl _) (Nat.le_refl _)).trans (SFr.ups (by omega) (Nat.le_refl _)) (Nat.le_refl _) (Nat.le_refl _)
    have r1 : RN (up v1 53 st x) u n e nd nd3 X := RN_same _ _ (Nat.lt_succ_self _) _ _ _ (fun c j c1 c2 c3 c4 => by
      rw [upc_ne (by omega)]
      exact a2.1 c j (by omega) (by omega)) wr
    have rf1 : up v1 53 st x 61 X = fstT u n e := by
      rw [upc_ne (by omega), a2.1 61 X (by omega) (by omega)]; exact wf
    have rb1 : RS (up v1 53 st x) u n b (st + 1) st2 nd3 nd4 x := RS_same _ _ (Nat.lt_succ_self _) _ _ _ _ _ (fun c j c1 c2 c3 c4 => upc_ne (by omega)) (fun c j c1 c2 c3 c4 => upc_ne (by omega)) a3
    have c53 : up v1 53 st x 53 st = x := up_k
    have hx2 : ¬ x = -2 := by omega
    refine ⟨gd0, gd0, fun c => absurd (c53.symm.trans c) hx2, fun _ => ?_⟩
    have done : okQ (stm i e b .thrown) i2 st2 sc2 = some r → ∀ vv : Mem, SG vv u n i2 st2 (dp + 1) sc2 nd4 → SFr nd st v vv → (∀ c j, 49 ≤ c → vv c j = up v1 53 st x c j) → Q st vv := by
      intro hh vv g2 f2 ee
      cases hh
      refine hq vv nd4 g2 f2 ?_ ?_ (by omega) (by dsimp only; omega) (by dsimp only; omega) hsc (by dsimp only; omega) (by dsimp only; omega)
      · refine ⟨st2, nd3, nd4, X, by omega, Nat.le_refl _, hX.1, hX.2, a5, Nat.le_refl _, ?_, fun h => by omega, fun h => by omega, ?_, ?_, hE, ?_, ?_, ?_⟩
        · rw [ee 49 st (by omega), e1 49 (by omega) (by omega) (by omega)]; exact w49
        · rw [ee 52 st (by omega), e1 52 (by omega) (by omega) (by omega)]; exact w52
        · exact RN_same _ _ (Nat.lt_succ_self _) _ _ _ (fun c j c1 c2 c3 c4 => ee c j (by omega)) r1
        · rw [ee 61 X (by omega)]; exact rf1
        · rw [ee 53 st (by omega), c53]
          exact RS_same _ _ (Nat.lt_succ_self _) _ _ _ _ _ (fun c j c1 c2 c3 c4 => ee c j (by omega)) (fun c j c1 c2 c3 c4 => ee c j (by omega)) rb1
        · unfold RS
          exact ⟨Nat.le_refl _, Nat.le_refl _, by rw [ee 54 st (by omega), e1 54 (by omega) (by omega) (by omega)]; exact w54⟩
      · rw [ee 55 st (by omega), e1 55 (by omega) (by omega) (by omega)]; exact w55
    refine ⟨fun h3 => ?_, fun h3 => ?_⟩
    · have hk16 : kd u n i = 16 := by omega
      obtain ⟨sg, nb, he⟩ := g1.1
      refine RR.deep (d := 0 + 5) (is_41 he.2.1 ?_) (by omega)
      rw [he.ck]
      by_cases h13 : kd u n i2 = 13
      · rw [decide_eq_true h13]
        rw [if_pos ⟨hk16, h13⟩] at h2
        refine ⟨fun c => absurd c (by decide), fun _ => RR.deep (d := 0 + 8) (nx_es he (by omega) (fun v6 b1 b2 => ?_)) (by omega)⟩
        have hg6 := g1.next he (by omega) (by omega) b1 (Nat.le_refl _) (st' := st2) (dp' := dp + 1) (sc' := sc2) (by rw [b2.2 22 (by omega)]; exact g1.2.2.2.1) (by rw [b2.2 40 (by omega)]; exact g1.2.2.2.2.1) (by rw [b2.2 41 (by omega)]; exact g1.2.2.2.2.2)
        have f6 : SFr nd st v v6 := f1.trans (SFr.efr (EFr.s38 b2)) (Nat.le_refl _) (Nat.le_refl _)
        have e6 : ∀ c j, 49 ≤ c → v6 c j = up v1 53 st x c j := fun c j h => by rw [b2.1 c (by omega)]
        rcases bndS_some h2 with ⟨j, h4, rfl⟩ | ⟨cc, i3, st3, sc3, h4, h5⟩
        · refine hB (i2 + 1) st2 (dp + 1) sc2 _ h4 d v6 _ nd4 (by unfold dS at *; omega) hg6 (by omega) hsc (by omega) ?_
          intro v7 d1 d2
          refine ⟨gd0, gd0, fun _ => ?_, fun c => absurd up_k c⟩
          exact hq _ d1 ((f6.trans (d2.less (by omega) (by omega)) (Nat.le_refl _) (Nat.le_refl _)).trans (SFr.ups (by omega) (Nat.le_refl _)) (Nat.le_refl _) (Nat.le_refl _))
        · have e3 := PS0_sc h4
          subst e3
          have h5 : okQ (stm i e b cc) i3 st3 sc3 = some r := h5
          cases h5
          refine hB (i2 + 1) st2 (dp + 1) sc3 _ h4 d v6 _ nd4 (by unfold dS at *; omega) hg6 (by omega) hsc (by omega) ?_
          intro v7 nd5 y d1 d2 d3 d4 d5 d6 d7 d8 d9
          dsimp only at d1 d3 d6 d7 d8 d9
          have c54 : up v7 54 st y 54 st = y := up_k
          refine ⟨gd0, gd0, fun c => absurd (c54.symm.trans c) (by omega), fun _ => ?_⟩
          have e7 : ∀ c, 49 ≤ c → c ≤ 55 → ¬ c = 54 → up v7 54 st y c st = up v1 53 st x c st := fun c h h' h2 => by
            rw [upc_ne (by omega), d2.1 c st (by omega) (by omega), e6 c st h]
          refine hq _ nd5 (d1.upd rfl (fun k _ => rfl) d1.2.2.2.1 d1.2.2.2.2.1 d1.2.2.2.2.2) ((f6.trans (d2.less (by omega) (by omega)) (Nat.le_refl _) (Nat.le_refl _)).trans (SFr.ups (by omega) (Nat.le_refl _)) (Nat.le_refl _) (Nat.le_refl _)) ?_ ?_ (by omega) (by dsimp only; omega) (by dsimp only; omega) hsc (by dsimp only; omega) (by dsimp only; omega)
          · refine ⟨st2, nd3, nd4, X, by omega, d6, hX.1, hX.2, a5, d5, ?_, fun h => by omega, fun h => by omega, ?_, ?_, hE, ?_, ?_, ?_⟩
            · rw [e7 49 (by omega) (by omega) (by omega), e1 49 (by omega) (by omega) (by omega)]; exact w49
            · rw [e7 52 (by omega) (by omega) (by omega), e1 52 (by omega) (by omega) (by omega)]; exact w52
            · exact RN_same _ _ (Nat.lt_succ_self _) _ _ _ (fun c j c1 c2 c3 c4 => by rw [upc_ne (by omega), d2.1 c j (by omega) (by omega), e6 c j (by omega)]) r1
            · rw [upc_ne (by omega), d2.1 61 X (by omega) (by omega), e6 61 X (by omega)]; exact rf1
            · rw [e7 53 (by omega) (by omega) (by omega), c53]
              exact RS_same _ _ (Nat.lt_succ_self _) _ _ _ _ _ (fun c j c1 c2 c3 c4 => by rw [upc_ne (by omega), d2.1 c j (by omega) (by omega), e6 c j (by omega)]) (fun c j c1 c2 c3 c4 => by rw [upc_ne (by omega), d2.1 c j (by omega) (by omega), e6 c j (by omega)]) rb1
            · rw [c54]
              exact RS_same _ _ (Nat.lt_succ_self _) _ _ _ _ _ (fun c j c1 c2 c3 c4 => upc_ne (by omega)) (fun c j c1 c2 c3 c4 => upc_ne (by omega)) d3
          · rw [e7 55 (by omega) (by omega) (by omega), e1 55 (by omega) (by omega) (by omega)]; exact w55
      · rw [decide_eq_false h13]
        rw [if_neg (fun h => h13 h.2)] at h2
        exact ⟨fun _ => done h2 _ g1 f1 (fun _ _ _ => rfl), fun c => absurd rfl c⟩
    · have hk16 : ¬ kd u n i = 16 := by omega
      rw [if_neg (fun h => hk16 h.1)] at h2
      exact done h2 _ g1 f1 (fun _ _ _ => rfl)
