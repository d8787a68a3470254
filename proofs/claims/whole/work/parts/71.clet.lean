/-! The class's walk over an S: NAME = E, let. -/
theorem give_k {s t : Int} {u : Nat → Int} {n la : Nat} {G : Fn} {L : Sc} {f : Nat} (hE : KE s t u n la G L f) {i st dp sc d mx : Nat} {v w : Mem} {Q : Int → Mem → Prop} {rt : Int} {r : Except Nat (Jvm.Term × Nat × Nat × Nat)} (hp : PS (kd u n) (f + 1) 2 i st dp sc = some r) (hd : 494 ≤ d) (h : PB s v w u n la i st dp G L []) (h0 : PA s v u n la i st dp sc G L mx) (hk : kd u n i = 2) (hq : PoSc s Q v u n la i dp G L rt mx r) : RR t (d + 1) 93 [(2, 22)] w (fun x4 v4 => LL t (d + 2) 91 233 [(2, 22)] [] v4 Q) := by
  obtain ⟨d', rfl⟩ : ∃ d', d = d' + 1 := ⟨d - 1, by omega⟩
  rw [PS_2, if_neg (by rw [hk]; have := h0.2.2.1; have := h0.2.2.2.1; have : skd 2 = 2 := rfl; omega), if_neg (by omega), if_pos hk] at hp
  have hl := h.1.adv i (by omega) (by omega)
  have hi := h.1.1.lt (by omega)
  refine s_93 (d := d') ?_
  rw [h.1.1.value hi]
  -- what is behind the NAME
  have key : ∀ (x1 : Int) (w' : Mem) (nf : List Nat), (s = 1 → x1 = slt L (vl u n i)) → PB s v w' u n la i st dp G L nf → (s = 1 → nf = (if slt L (vl u n i) = -1 then [ps u n i] else [])) → RR t (d' + 1) 99 [(2, 22), (0, f_132 x1 (m_123 61 (m_122 w')))] (m_123 61 (m_122 w')) (fun x3 v3 => LL t (d' + 1 + 2) 91 233 [(2, 22)] [] (m_10 10 x1 0 (m_123 59 v3)) Q) := by
    intro x1 w' nf hx1 hw hnf
    obtain ⟨g, go, gp⟩ := hw.next h0 0 (by omega) (by omega)
    rcases go.expect (c := 61) (by omega) with ⟨k61, g1⟩ | ⟨k61, g1⟩
    · rw [if_pos k61] at hp
      have hty : s = 1 → f_132 x1 (m_123 61 (m_122 w')) = slT L (vl u n i) := fun hs => by
        rw [hx1 hs]
        exact (g1.1.2.2.2.2.2 hs).2.ty _
      rcases bndE_some hp with ⟨j, h1, rfl⟩ | ⟨e, i1, s1, h1, h2⟩
      · refine tailOf_k (d := d' + 1) (Q := fun _ v4 => LL t (d' + 1 + 2) 91 233 [(2, 22)] [] v4 Q) (act := 10) (z := x1) hE h1 (by omega) g1 (by omega) (fun e v' e1 hx => ?_) (fun e i1 s1 v' e1 => by cases e1) (fun e i1 s1 v' e1 => by cases e1)
        cases e1
        exact epi_x (CXs.of g.2.1 hx) hq
      · refine tailOf_k (d := d' + 1) (Q := fun _ v4 => LL t (d' + 1 + 2) 91 233 [(2, 22)] [] v4 Q) (act := 10) (z := x1) hE h1 (by omega) g1 (by omega) (fun e v' e1 hx => by cases e1) (fun e' i1' s1' v' e1 k59 hx => ?_) (fun e' i1' s1' v' e1 k59 g3 => ?_)
        · cases e1
          rw [if_neg k59] at h2
          have h2 : erQ i1 = some r := h2
          cases h2
          exact epi_x (CXs.of g.2.1 hx) hq
        · cases e1
          rw [if_pos k59] at h2
          have h2 : okQ (stm i e .null .thrown) (i1 + 1) (st + 1) sc = some r := h2
          cases h2
          refine epi_k (k := 0) (g.sub g3) (fun v6 g6 => hq v6 ?_)
          have e1 : scB u n G L (stm i e .null .thrown) = L := by
            show (if kd u n i = 19 then _ else L) = L
            rw [if_neg (by omega)]
          dsimp only
          rw [e1]
          refine (g6.less (Nat.zero_le _)).eq (fun hs => ?_) (fun hs => ?_) (fun hs => ?_) (fun hs => ?_)
          · show _ = (if kd u n i = 19 then _ else if kd u n i = 2 then _ else _)
            rw [if_neg (by omega), if_pos hk, gp hs, hx1 hs]
            simp only [List.append_assoc, List.cons_append, List.nil_append]
          · show _ = (if kd u n i = 19 then _ else if kd u n i = 2 then (if slt L (vl u n i) = -1 then [ps u n i] else []) ++ nfE u n G L e else _)
            rw [if_neg (by omega), if_pos hk, hnf hs]; rfl
          · show _ = (if kd u n i = 19 ∨ kd u n i = 21 ∨ kd u n i = 12 then tfE u n G L [] e else if kd u n i = 2 then _ else _)
            rw [if_neg (by omega), if_pos hk, hty hs]; rfl
          · show _ = (if kd u n i = 19 then _ else mx)
            rw [if_neg (by omega)]
    · rw [if_neg k61] at hp
      have hp : erQ (i + 1) = some r := hp
      cases hp
      exact (CXs.of g.2.1 g1).rowOf (by omega) (fun v1 hx => epi_x ((hx.expect 59).act _ _ _) hq)
  refine h.1.lfd (fun x1 hx1 hx2 => ⟨fun c => ?_, fun c => ?_⟩)
  · rw [h.1.place]
    exact key x1 _ _ hx1 (h.fnm (ps u n i)) (fun hs => by rw [if_pos (by rw [← hx1 hs]; exact c)]; rfl)
  · exact key x1 _ _ hx1 h (fun hs => by rw [if_neg (by rw [← hx1 hs]; exact c)])
/-- a local comes into scope -/
theorem GS.add {s : Int} {v0 v : Mem} {u : Nat → Int} {n la i0 i st dp sc k : Nat} {G : Fn} {L : Sc} {a : Ac} {nf : List Nat} {tf : List Int} {mx : Nat} (h : GS s v0 v u n la i0 i st dp sc k G L a nf tf mx) (hsc : sc < 30) (nm ty : Int) : GS s v0 (m_130 nm ty v) u n la i0 i st dp (sc + 1) k G (L ++ [(nm, ty)]) a nf tf (max mx (L.length + 1)) := by
  obtain ⟨⟨hg, a1, a2, a3⟩, a4, a5, a6, a7, a8⟩ := h
  have e : m_130 nm ty v = up (up (up (up v 29 sc nm) 30 sc ty) 28 2 ((sc + 1 : Nat) : Int)) 28 3 (if v 28 3 < ((sc + 1 : Nat) : Int) then ((sc + 1 : Nat) : Int) else v 28 3) := by
    unfold m_130
    rw [a3.1, if_neg (by omega), if_pos (by omega), Int.toNat_natCast, wS hsc (by decide)]
    rfl
  have ec : ∀ c, (c < 28 ∨ 30 < c) → m_130 nm ty v c = v c := fun c hc => by rw [e, up_ne (by omega), up_ne (by omega), up_ne (by omega), up_ne (by omega)]
  refine ⟨⟨?_, by rw [ec 22 (by omega)]; exact a1, by rw [ec 22 (by omega)]; exact a2, ?_, by omega⟩, a4.trans FrS.add, a5.add ?_, fun hs => by rw [ec 8 (by omega)]; exact a6 hs, a7, fun hs => ?_⟩
  · obtain ⟨b1, b4, b5, b6⟩ := hg
    refine ⟨⟨b1.1.keep (fun c hc => ec c (by omega)) (by rw [ec 22 (by omega)]), by rw [ec 22 (by omega)]; exact b1.2.1, by rw [ec 22 (by omega)]; exact b1.2.2.1, b1.2.2.2⟩, by rw [ec 22 (by omega), ec 8 (by omega)]; exact b4, ⟨by rw [ec 1 (by omega)]; exact b5.1, ⟨sc + 1, ?_, by omega⟩, by rw [ec 8 (by omega)]; exact b5.2.2⟩, fun hs => ?_⟩
    · rw [e]; rfl
    · obtain ⟨c1, c2, c3, c4⟩ := b6 hs
      have hL : L.length = sc := by have := a3.1; omega
      refine ⟨?_, ?_, ?_, ?_⟩
      · unfold FNS at *
        rw [ec 1 (by omega), ec 2 (by omega), ec 3 (by omega), ec 4 (by omega), ec 5 (by omega)]
        exact c1
      · rw [e, List.length_append, hL]; rfl
      · rw [List.length_append, hL]
        show sc + 1 ≤ 30
        omega
      · intro k hk
        rw [List.length_append] at hk
        have hk : k < L.length + 1 := hk
        have e29 : m_130 nm ty v 29 k = if k = sc then nm else v 29 k := by rw [e]; rfl
        have e30 : m_130 nm ty v 30 k = if k = sc then ty else v 30 k := by rw [e]; rfl
        rw [e29, e30]
        by_cases hks : k = sc
        · rw [if_pos hks, if_pos hks, hks, ← hL]
          simp
        · rw [if_neg hks, if_neg hks]
          have hk2 : k < L.length := by omega
          rw [List.getD_eq_getElem?_getD, List.getElem?_append_left hk2, ← List.getD_eq_getElem?_getD]
          exact c4 k hk2
  · rw [e]; rfl
  · exact OW.nil (fun c c1 c2 => ec c (by omega)) (by rw [ec 22 (by omega)]) (by rw [ec 22 (by omega)]) (fun _ => by obtain ⟨c, hc, _⟩ := hg.pc; exact ⟨c, hc⟩)
  · have hL : L.length = sc := by have h1 := (hg.2.2.2 hs).2.1; have := a3.1; omega
    have h1 : m_130 nm ty v 28 3 = (if v 28 3 < ((sc + 1 : Nat) : Int) then ((sc + 1 : Nat) : Int) else v 28 3) := by rw [e, up_k]
    rw [h1, a8 hs, hL]
    split <;> omega
theorem GS.scope {s : Int} {v0 v : Mem} {u : Nat → Int} {n la i0 i st dp sc k : Nat} {G : Fn} {L L' : Sc} {a : Ac} {nf : List Nat} {tf : List Int} {mx : Nat} (h : GS s v0 v u n la i0 i st dp sc k G L a nf tf mx) (hL : s = 1 → L = L') : GS s v0 v u n la i0 i st dp sc k G L' a nf tf mx := by
  obtain ⟨⟨⟨b1, b4, b5, b6⟩, a1, a2, a3⟩, a4⟩ := h
  exact ⟨⟨⟨b1, b4, b5, fun hs => by rw [← hL hs]; exact b6 hs⟩, a1, a2, a3⟩, a4⟩
theorem let_k {s t : Int} {u : Nat → Int} {n la : Nat} {G : Fn} {L : Sc} {f : Nat} (hE : KE s t u n la G L f) {i st dp sc d mx : Nat} {v w : Mem} {Q : Int → Mem → Prop} {rt : Int} {r : Except Nat (Jvm.Term × Nat × Nat × Nat)} (hp : PS (kd u n) (f + 1) 2 i st dp sc = some r) (hd : 494 ≤ d) (h : PB s v w u n la i st dp G L []) (h0 : PA s v u n la i st dp sc G L mx) (hk : kd u n i = 19) (hq : PoSc s Q v u n la i dp G L rt mx r) : RR t (d + 1) 92 [(2, 22)] w (fun x4 v4 => LL t (d + 2) 91 233 [(2, 22)] [] v4 Q) := by
  obtain ⟨d', rfl⟩ : ∃ d', d = d' + 1 := ⟨d - 1, by omega⟩
  rw [PS_2, if_neg (by rw [hk]; have := h0.2.2.1; have := h0.2.2.2.1; have : skd 19 = 1 := rfl; omega), if_pos hk] at hp
  have hl := h.1.adv2 i 3 (by omega) (by rw [hk]; decide +kernel)
  obtain ⟨g, go, gp⟩ := h.next h0 2 (by omega) hl
  have hsc := g.1.2.2.2
  -- behind a fault
  have bad : ∀ j, r = .error j → ∀ (l1 : Int) (v1 : Mem), CXs v v1 u n la j → LL t (d' + 2) 92 30 [(2, 22), (1, l1), (3, 0), (3, 0)] [] v1 (fun x4 v4 => LL t (d' + 1 + 2) 91 233 [(2, 22)] [] v4 Q) := by
    intro j e l1 v1 hx
    subst e
    obtain ⟨c, hc, hc2⟩ := hx.2.2.2.2.2 ⟨sc, h0.1.2.2.2.1, h0.1.2.2.2.2⟩
    refine s_92_30 (d := d') (sfind_rr hc hc2 ⟨fun _ => ?_, fun _ => ?_⟩)
    · exact ((hx.expect 2).expect 61).row (by omega) (epi_x (((((hx.expect 2).expect 61).expect 59).act _ _ _).add _ _) hq)
    · exact (((hx.fnm _).expect 2).expect 61).row (by omega) (epi_x ((((((hx.fnm _).expect 2).expect 61).expect 59).act _ _ _).add _ _) hq)
  refine s_92 (d := d' + 1) ⟨fun c => ?_, fun c => ?_⟩
  · rw [hsc.1] at c
    by_cases k2 : kd u n (i + 1) = 2
    · rw [if_pos ⟨k2, by omega⟩] at hp
      have hi := go.1.1.lt (by omega)
      rw [go.1.1.value hi]
      refine s_92_30 (d := d') ?_
      -- what is behind the NAME
      have key : ∀ (x1 : Int) (w' : Mem) (nf : List Nat), (s = 1 → nf = (if slt L (vl u n (i + 1)) = -1 then [] else [ps u n (i + 1)])) → GO s (m_122 w) w' u n la (i + 1) (i + 1) 0 0 0 G L [] nf [] → RR t (d' + 1) 100 [(2, 22), (0, 0)] (m_123 61 (m_123 2 w')) (fun x3 v3 => LL t (d' + 1 + 2) 91 233 [(2, 22)] [] (m_130 (vl u n (i + 1)) x3 (m_10 10 (m_123 59 v3 28 2) 0 (m_123 59 v3))) Q) := by
        intro x1 w' nf hnf g0
        rcases g0.expect (c := 2) (by omega) with ⟨-, g1⟩ | ⟨kx, -⟩
        · rcases g1.expect (c := 61) (by omega) with ⟨k61, g2⟩ | ⟨k61, g2⟩
          · rw [if_pos k61] at hp
            rcases bndE_some hp with ⟨j, h1, e0⟩ | ⟨e, i1, s1, h1, h2⟩
            · refine row_k hE h1 (by unfold dN; omega) g2 (fun e y v' e1 hx => ?_) (fun e i1 s1 y v' e1 => by cases e1)
              cases e1
              subst e0
              exact epi_x (((CXs.of g.2.1 (hx.expect 59)).act _ _ _).add _ _) hq
            · refine row_k hE h1 (by unfold dN; omega) g2 (fun e y v' e1 hx => by cases e1) (fun e' i1' s1' y v' e1 g3 hy => ?_)
              cases e1
              rcases g3.expect (c := 59) (by omega) with ⟨k59, g4⟩ | ⟨k59, g4⟩
              · rw [if_pos k59] at h2
                have h2 : okQ (stm i e .null .thrown) (i1 + 1) (st + 1) (sc + 1) = some r := h2
                cases h2
                have e28 : m_123 59 v' 28 2 = (sc : Int) := by rw [g4.2.1.1 28 (by omega) (by omega)]; exact hsc.1
                rw [e28]
                obtain ⟨g5, -, -⟩ := g4.act 10 (sc : Int) 0 (by omega)
                refine epi_k (k := 3) (GS.less (GS.add (g.sub g5) (by omega) (vl u n (i + 1)) y) (by omega)) (fun v6 g6 => hq v6 ?_)
                have e1 : s = 1 → scB u n G L (stm i e .null .thrown) = L ++ [(vl u n (i + 1), y)] := fun hs => by
                  show (if kd u n i = 19 then L ++ [(vl u n (i + 1), tyE u n G L e)] else L) = _
                  rw [if_pos hk, hy hs]
                have g7 := (g6.less (Nat.zero_le _)).scope (L' := scB u n G L (stm i e .null .thrown)) (fun hs => (e1 hs).symm)
                refine g7.eq (fun hs => ?_) (fun hs => ?_) (fun hs => ?_) (fun hs => ?_)
                · show _ = (if kd u n i = 19 then (0, 0, 0) :: (coE u n G L e ((v 8 3).toNat + 1) ++ [(10, (L.length : Int), 0), (1, 0, 0)]) else _)
                  have hL : (sc : Int) = (L.length : Nat) := by rw [← hsc.1]; exact (go.1.2.2.2.2.2 hs).2.1
                  rw [if_pos hk, gp hs, ← hL]
                  simp only [List.append_assoc, List.cons_append, List.nil_append, List.length_nil, Nat.add_zero]
                · show _ = (if kd u n i = 19 then (if slt L (vl u n (i + 1)) = -1 then [] else [ps u n (i + 1)]) ++ nfE u n G L e else _)
                  rw [if_pos hk, hnf hs]; rfl
                · show _ = (if kd u n i = 19 ∨ kd u n i = 21 ∨ kd u n i = 12 then tfE u n G L [] e else _)
                  rw [if_pos (by omega)]; rfl
                · show _ = (if kd u n i = 19 then max mx (L.length + 1) else _)
                  rw [if_pos hk]
              · rw [if_neg k59] at h2
                have h2 : erQ i1 = some r := h2
                cases h2
                exact epi_x (((CXs.of g.2.1 g4).act _ _ _).add _ _) hq
          · rw [if_neg k61] at hp
            have hp : erQ (i + 2) = some r := hp
            cases hp
            exact (CXs.of g.2.1 g2).row (by omega) (epi_x ((((CXs.of g.2.1 g2).expect 59).act _ _ _).add _ _) hq)
        · exact absurd k2 kx
      refine go.1.lfd (fun x1 hx1 hx2 => ⟨fun c => ?_, fun c => ?_⟩)
      · exact key x1 _ [] (fun hs => by rw [if_pos (by rw [← hx1 hs]; exact c)]) go
      · rw [go.1.place]
        exact key x1 _ _ (fun hs => by rw [if_neg (by rw [← hx1 hs]; exact c)]; rfl) (go.fnm (ps u n (i + 1)))
    · rw [if_neg (fun q => k2 q.1)] at hp
      have hp : erQ (i + 1) = some r := hp
      cases hp
      refine s_92_30 (d := d') ?_
      refine go.1.lfd (fun x1 hx1 hx2 => ⟨fun c => ?_, fun c => ?_⟩)
      · rcases go.expect (c := 2) (by omega) with ⟨kx, -⟩ | ⟨-, g1⟩
        · exact absurd kx k2
        · exact (CXs.of g.2.1 (g1.expect 61)).row (by omega) (epi_x (((CXs.of g.2.1 ((g1.expect 61).expect 59)).act _ _ _).add _ _) hq)
      · rw [go.1.place]
        rcases (go.fnm (ps u n (i + 1))).expect (c := 2) (by omega) with ⟨kx, -⟩ | ⟨-, g1⟩
        · exact absurd kx k2
        · exact (CXs.of g.2.1 (g1.expect 61)).row (by omega) (epi_x (((CXs.of g.2.1 ((g1.expect 61).expect 59)).act _ _ _).add _ _) hq)
  · rw [hsc.1] at c
    rw [if_neg (fun q => c (by omega))] at hp
    have hp : erQ (i + 1) = some r := hp
    exact bad (i + 1) (by cases hp; rfl) _ _ ⟨go.1.1.refuse_st, g.2.1.trans (FrS.of FrE.refuse)⟩
