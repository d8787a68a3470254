/-! The class's walk over an S: if. -/
theorem PS_blk {K : Nat → Int} {f i st dp sc : Nat} {c : Jvm.Term} {j a b : Nat} (h : PS K f 0 i st dp sc = some (.ok (c, j, a, b))) : c = .null ∨ ∃ x y, c = .sub x y := by
  match f, h with
  | f + 1, h =>
    rw [PS_0] at h
    split at h
    · rcases bndS_some h with ⟨j', h1, e⟩ | ⟨l, i1, st1, sc1, h1, h2⟩
      · cases e
      · have h2 : okQ l i1 st1 sc = some (.ok (c, j, a, b)) := h2
        cases h2
        match f, h1 with
        | f + 1, h1 =>
          rw [PS_1] at h1
          split at h1
          · have h1 : okQ .null (i + 1 + 1) st sc = some (.ok (c, j, a, sc1)) := h1
            cases h1
            exact Or.inl rfl
          · rcases bndS_some h1 with ⟨j', h1, e⟩ | ⟨s, i2, st2, sc2, h3, h4⟩
            · cases e
            · rcases bndS_some h4 with ⟨j', h1, e⟩ | ⟨s', i3, st3, sc3, h5, h6⟩
              · cases e
              · have h6 : okQ (.sub s s') i3 st3 sc3 = some (.ok (c, j, a, sc1)) := h6
                cases h6
                exact Or.inr ⟨s, s', rfl⟩
    · cases h
theorem choose_k {s t : Int} {u : Nat → Int} {n la : Nat} {G : Fn} {L : Sc} {f : Nat} (hE : KE s t u n la G L f) (hB : KB s t u n la G f) {i st dp sc d mx : Nat} {v w : Mem} {Q : Int → Mem → Prop} {rt : Int} {r : Except Nat (Jvm.Term × Nat × Nat × Nat)} (hp : PS (kd u n) (f + 1) 2 i st dp sc = some r) (hd : dB dp ≤ d + 2) (h : PB s v w u n la i st dp G L []) (h0 : PA s v u n la i st dp sc G L mx) (hrt : s = 1 → f_27 (v 22 11) v = rt) (hk : kd u n i = 16) (hq : PoSc s Q v u n la i dp G L rt mx r) : RR t (d + 1) 94 [(2, 22)] w (fun x4 v4 => LL t (d + 2) 91 233 [(2, 22)] [] v4 Q) := by
  have hdp := h0.2.2.2.1
  have hd1 : dB (dp + 1) + 2 ≤ d := by unfold dB at *; omega
  have hd2 : 500 ≤ d := by unfold dB at hd1; omega
  obtain ⟨d', rfl⟩ : ∃ d', d = d' + 1 := ⟨d - 1, by omega⟩
  have hd1' : dB (dp + 1) + 2 ≤ d' + 1 := hd1
  have hsc0 : ∃ c : Nat, v 28 2 = c ∧ c ≤ 30 := ⟨sc, h0.1.2.2.2.1, h0.1.2.2.2.2⟩
  rw [PS_2, if_neg (by rw [hk]; have := h0.2.2.1; have : skd 16 = 3 := rfl; omega), if_neg (by omega), if_neg (by omega)] at hp
  have hl := h.1.adv2 i 2 (by omega) (by rw [hk]; decide +kernel)
  obtain ⟨g, go, gp⟩ := h.next h0 1 (by omega) hl
  have h8 := g.h8
  refine s_94 (d := d') ?_
  have bad2 : ∀ j, r = .error j → ∀ idx v2, CXs v v2 u n la j → (f_155 (v2 22 10) v2 = 13 → (RR t (d' + 1) 11 [(2, 8), (0, idx)] (m_10 2 0 0 (m_122 v2)) (fun x4 v4 => (RR t (d' + 1) 90 [(2, 22)] v4 (fun x5 v5 => (RR t (d' + 1) 11 [(2, 8), (0, (f_10 2 0 0 (m_122 v2)))] v5 (fun x6 v6 => LL t (d' + 1 + 2) 91 233 [(2, 22)] [] v6 Q))))))) ∧ (¬ f_155 (v2 22 10) v2 = 13 → (RR t (d' + 1) 11 [(2, 8), (0, idx)] v2 (fun x7 v7 => LL t (d' + 1 + 2) 91 233 [(2, 22)] [] v7 Q))) := by
    intro j e idx v2 hx
    subst e
    rw [hx.1.kind]
    exact ⟨fun c => absurd c (by decide), fun _ => hx.aimr h8 (fun v' h' => epi_x h' hq)⟩
  rcases bndE_some hp with ⟨j, h1, e0⟩ | ⟨e, i1, s1, h1, h2⟩
  · refine rowOf_k hE h1 (by unfold dN; omega) go (fun j' v' e1 hx => ?_) (fun e i1 s1 v' e1 => by cases e1)
    cases e1
    exact ((CXs.of g.2.1 hx).act _ _ _).blk hsc0 (by omega) (bad2 j e0 _ _ ((CXs.of g.2.1 hx).act _ _ _))
  · rw [if_pos (Or.inl hk)] at h2
    refine rowOf_k hE h1 (by unfold dN; omega) go (fun j' v' e1 hx => by cases e1) (fun e' i1' s1' v1 e1 g1 hs1 => ?_)
    cases e1
    obtain ⟨E, hE0⟩ : ∃ E, coE u n G L e ((v 8 3).toNat + 1) = E := ⟨_, rfl⟩
    have g2 := (g.sub g1).eq (b := (0, 0, 0) :: E) (fun hs => by rw [gp hs, ← hE0]; rfl) (fun _ => rfl) (fun _ => rfl) (fun _ => rfl)
    obtain ⟨g3, f3, f3'⟩ := GS.act (k := 0) g2 3 0 0 (by omega)
    have ib : (v 8 3).toNat + (((0, 0, 0) :: E) ++ [(3, 0, 0)]).length = (v 8 3).toNat + 1 + E.length + 1 := by
      simp only [List.length_append, List.length_cons, List.length_nil]
      omega
    rcases bndS_some h2 with ⟨j, h3, e0⟩ | ⟨b, i2, st2, sc2, h3, h4⟩
    · refine blk_k hB h3 hd1' g3 hrt (fun j' v' e1 hx => ?_) (fun b i2 st2 sc2 v' e1 => by cases e1)
      cases e1
      exact bad2 j e0 _ _ hx
    · refine blk_k hB h3 hd1' g3 hrt (fun j' v' e1 hx => by cases e1) (fun b' i2' st2' sc2' v5 e1 g5 => ?_)
      cases e1
      rw [ib] at g5
      obtain ⟨B, hB0⟩ : ∃ B, coK u n G L b ((v 8 3).toNat + 1 + E.length + 1) = B := ⟨_, rfl⟩
      rw [hB0] at g5
      rw [g5.kind]
      refine ⟨fun k13 => ?_, fun k13 => ?_⟩
      · rw [if_pos ⟨hk, k13⟩] at h4
        have g6 := g5.next (by omega) (by omega)
        obtain ⟨g7, f7, f7'⟩ := GS.act (k := 1) g6 2 0 0 (by omega)
        have g7' := g7.eq (b := ((0, 0, 0) :: E) ++ (3, 0, 0) :: (B ++ [(2, 0, 0)])) (fun _ => by simp only [List.append_assoc, List.cons_append, List.nil_append]) (fun _ => rfl) (fun _ => rfl) (fun _ => rfl)
        refine GS.aimr g7' f3 f3' (fun v8 g8 => ?_)
        obtain ⟨T, hT⟩ : ∃ T : Int, (((v 8 3).toNat + ((0, 0, 0) :: E : Ac).length + 1 + (B ++ [(2, 0, 0)]).length : Nat) : Int) = T := ⟨_, rfl⟩
        rw [hT] at g8
        have ic : (v 8 3).toNat + (((0, 0, 0) :: E) ++ (3, T, 0) :: (B ++ [(2, 0, 0)])).length = (v 8 3).toNat + 1 + E.length + 1 + B.length + 1 := by
          simp only [List.length_append, List.length_cons, List.length_nil]
          omega
        rcases bndS_some h4 with ⟨j, h5, e0⟩ | ⟨c, i3, st3, sc3, h5, h6⟩
        · refine blk_k hB h5 hd1' g8 hrt (fun j' v' e1 hx => ?_) (fun b i2 st2 sc2 v' e1 => by cases e1)
          cases e1
          subst e0
          exact hx.aimr h8 (fun v' h' => epi_x h' hq)
        · have h6 : okQ (stm i e b c) i3 st3 sc = some r := h6
          cases h6
          refine blk_k hB h5 hd1' g8 hrt (fun j' v' e1 hx => by cases e1) (fun b' i2' st2' sc2' v9 e1 g9 => ?_)
          cases e1
          have hc := PS_blk h5
          rw [ic] at g9
          obtain ⟨C, hC0⟩ : ∃ C, coK u n G L c ((v 8 3).toNat + 1 + E.length + 1 + B.length + 1) = C := ⟨_, rfl⟩
          rw [hC0] at g9
          have g9' := g9.eq (b := (((0, 0, 0) :: E) ++ (3, T, 0) :: B) ++ (2, 0, 0) :: C) (fun _ => by simp only [List.append_assoc, List.cons_append, List.nil_append]) (fun _ => rfl) (fun _ => rfl) (fun _ => rfl)
          refine GS.aimr g9' (fun hs => ?_) f7' (fun v10 g10 => epi_k (k := 1) g10 (fun v11 g11 => hq v11 ?_))
          · rw [f7 hs]
            have : ((((0, 0, 0) :: E) ++ [(3, 0, 0)]) ++ B).length = (((0, 0, 0) :: E) ++ (3, T, 0) :: B).length := by
              simp only [List.length_append, List.length_cons, List.length_nil]
              omega
            rw [this]
          · have e1 : scB u n G L (stm i e b c) = L := by
              show (if kd u n i = 19 then _ else L) = L
              rw [if_neg (by omega)]
            dsimp only
            rw [e1]
            refine (g11.less (Nat.zero_le _)).eq (fun hs => ?_) (fun hs => ?_) (fun hs => ?_) (fun hs => ?_)
            · have ec : coB u n G L (stm i e b c) (v 8 3).toNat = (0, 0, 0) :: (E ++ (3, (((v 8 3).toNat + 1 + E.length + 1 + B.length + 1 : Nat) : Int), 0) :: (B ++ (2, (((v 8 3).toNat + 1 + E.length + 1 + B.length + 1 + C.length : Nat) : Int), 0) :: (C ++ [(1, 0, 0)]))) := by
                rw [← hC0, ← hB0, ← hE0]
                unfold coK
                rcases hc with rfl | ⟨x, y, rfl⟩
                · show (if kd u n i = 19 then _ else if kd u n i = 2 then _ else if kd u n i = 22 then _ else if kd u n i = 21 then _ else if kd u n i = 12 then _ else if kd u n i = 25 then _ else _) = _
                  rw [if_neg (by omega), if_neg (by omega), if_neg (by omega), if_neg (by omega), if_neg (by omega), if_neg (by omega)]
                · show (if kd u n i = 19 then _ else if kd u n i = 2 then _ else if kd u n i = 22 then _ else if kd u n i = 21 then _ else if kd u n i = 12 then _ else if kd u n i = 25 then _ else _) = _
                  rw [if_neg (by omega), if_neg (by omega), if_neg (by omega), if_neg (by omega), if_neg (by omega), if_neg (by omega)]
              have eT : T = (((v 8 3).toNat + 1 + E.length + 1 + B.length + 1 : Nat) : Int) := by
                rw [← hT]
                simp only [List.length_append, List.length_cons, List.length_nil]
                omega
              have eN : (v 8 3).toNat + (((0, 0, 0) :: E) ++ (3, T, 0) :: B).length + 1 + C.length = (v 8 3).toNat + 1 + E.length + 1 + B.length + 1 + C.length := by
                simp only [List.length_append, List.length_cons]
                omega
              rw [eN]
              show _ = coB u n G L (stm i e b c) (v 8 3).toNat
              rw [ec, ← eT]
              simp only [List.append_assoc, List.cons_append, List.nil_append]
            · show _ = (if kd u n i = 19 then _ else if kd u n i = 2 then _ else nfE u n G L e ++ (nfB u n G L b ++ nfB u n G L c))
              rw [if_neg (by omega), if_neg (by omega)]
              simp only [List.append_assoc, List.nil_append]
            · show _ = (if kd u n i = 19 ∨ kd u n i = 21 ∨ kd u n i = 12 then tfE u n G L [] e else if kd u n i = 2 then _ else if kd u n i = 22 then _ else (tfE u n G L [] e ++ wt 0 (tyE u n G L e) (fstT u n e)) ++ (tfB u n G rt L b ++ tfB u n G rt L c))
              rw [if_neg (by omega), if_neg (by omega), if_neg (by omega)]
              simp only [List.append_assoc, List.nil_append]
            · show _ = (if kd u n i = 19 then _ else mxB u n G (mxB u n G mx L b) L c)
              rw [if_neg (by omega)]
      · rw [if_neg (fun q => k13 q.2)] at h4
        have h4 : okQ (stm i e b .thrown) i2 st2 sc = some r := h4
        cases h4
        have g5' := g5.eq (b := ((0, 0, 0) :: E) ++ (3, 0, 0) :: B) (fun _ => by simp only [List.append_assoc, List.cons_append, List.nil_append]) (fun _ => rfl) (fun _ => rfl) (fun _ => rfl)
        refine GS.aimr g5' f3 f3' (fun v7 g7 => epi_k (k := 0) g7 (fun v8 g8 => hq v8 ?_))
        have e1 : scB u n G L (stm i e b .thrown) = L := by
          show (if kd u n i = 19 then _ else L) = L
          rw [if_neg (by omega)]
        dsimp only
        rw [e1]
        refine (g8.less (Nat.zero_le _)).eq (fun hs => ?_) (fun hs => ?_) (fun hs => ?_) (fun hs => ?_)
        · have ec : coB u n G L (stm i e b .thrown) (v 8 3).toNat = (0, 0, 0) :: (E ++ (3, (((v 8 3).toNat + 1 + E.length + 1 + B.length : Nat) : Int), 0) :: (B ++ [(1, 0, 0)])) := by
            rw [← hB0, ← hE0]
            unfold coK
            show (if kd u n i = 19 then _ else if kd u n i = 2 then _ else if kd u n i = 22 then _ else if kd u n i = 21 then _ else if kd u n i = 12 then _ else if kd u n i = 25 then _ else _) = _
            rw [if_neg (by omega), if_neg (by omega), if_neg (by omega), if_neg (by omega), if_neg (by omega), if_neg (by omega)]
          have eN : (v 8 3).toNat + ((0, 0, 0) :: E : Ac).length + 1 + B.length = (v 8 3).toNat + 1 + E.length + 1 + B.length := by
            simp only [List.length_cons]
            omega
          rw [eN]
          show _ = coB u n G L (stm i e b .thrown) (v 8 3).toNat
          rw [ec]
          simp only [List.append_assoc, List.cons_append, List.nil_append]
        · show _ = (if kd u n i = 19 then _ else if kd u n i = 2 then _ else nfE u n G L e ++ (nfB u n G L b ++ []))
          rw [if_neg (by omega), if_neg (by omega)]
          simp only [List.append_nil, List.nil_append]
        · show _ = (if kd u n i = 19 ∨ kd u n i = 21 ∨ kd u n i = 12 then tfE u n G L [] e else if kd u n i = 2 then _ else if kd u n i = 22 then _ else (tfE u n G L [] e ++ wt 0 (tyE u n G L e) (fstT u n e)) ++ (tfB u n G rt L b ++ []))
          rw [if_neg (by omega), if_neg (by omega), if_neg (by omega)]
          simp only [List.append_nil, List.nil_append]
        · show _ = (if kd u n i = 19 then _ else mxB u n G mx L b)
          rw [if_neg (by omega)]
