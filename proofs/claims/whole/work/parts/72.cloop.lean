/-! The class's walk over an S: if, while; any S; a BLOCK. -/
theorem GS.subS {s : Int} {v0 v v' : Mem} {u : Nat → Int} {n la i0 i i' st dp sc st' dp' sc' k k' : Nat} {G : Fn} {L L' : Sc} {a a' : Ac} {nf nf' : List Nat} {tf tf' : List Int} {mx mx' : Nat} (h : GS s v0 v u n la i0 i st dp sc k G L a nf tf mx) (h' : GS s v v' u n la i i' st' dp' sc' k' G L' a' nf' tf' mx') : GS s v0 v' u n la i0 i' st' dp' sc' (k + k') G L' (a ++ a') (nf ++ nf') (tf ++ tf') mx' := by
  refine ⟨h'.1, h.2.1.trans h'.2.1, h.2.2.1.trans h'.2.2.1, fun hs => ⟨(h.2.2.2.1 hs).1, ?_⟩, Nat.le_trans h.2.2.2.2.1 h'.2.2.2.2.1, h'.2.2.2.2.2⟩
  have h1 := (h.2.2.2.1 hs).2
  have h2 := (h'.2.2.2.1 hs).2
  omega
theorem GS.next {s : Int} {v0 v : Mem} {u : Nat → Int} {n la i0 i st dp sc k : Nat} {G : Fn} {L : Sc} {a : Ac} {nf : List Nat} {tf : List Int} {mx : Nat} (h : GS s v0 v u n la i0 i st dp sc k G L a nf tf mx) (h0 : kd u n i ≠ 0) (h1 : kd u n i ≠ 1) : GS s v0 (m_122 v) u n la i0 (i + 1) st dp sc (k + 1) G L a nf tf mx := by
  obtain ⟨⟨hg, a1, a2, a3⟩, a4, a5, a6, a7, a8⟩ := h
  obtain ⟨g1, g2, g3⟩ := hg.next h0
  have e28 : m_122 v 28 = v 28 := FrE.next.1 28 (by omega) (by omega)
  refine ⟨⟨g1, by rw [FrE.next.2.1 12 (by omega)]; exact a1, by rw [FrE.next.2.1 13 (by omega)]; exact a2, by rw [e28]; exact a3⟩, a4.trans (FrS.of FrE.next), a5.add g2, fun hs => ⟨(a6 hs).1, ?_⟩, by omega, fun hs => by rw [e28]; exact a8 hs⟩
  rw [g3]
  have := (a6 hs).2
  have := hg.adv i h0 h1
  omega
theorem GS.expect {s : Int} {v0 v : Mem} {u : Nat → Int} {n la i0 i st dp sc k : Nat} {G : Fn} {L : Sc} {a : Ac} {nf : List Nat} {tf : List Int} {mx : Nat} {c : Int} (h : GS s v0 v u n la i0 i st dp sc k G L a nf tf mx) (hc : c ≠ 0 ∧ c ≠ 1) : (kd u n i = c ∧ GS s v0 (m_123 c v) u n la i0 (i + 1) st dp sc (k + 1) G L a nf tf mx) ∨ (¬ kd u n i = c ∧ CXs v0 (m_123 c v) u n la i) := by
  rcases h.1.1.1.expect hc.1 with ⟨h1, h2, h3, h4⟩ | ⟨h1, h2, h3⟩
  · rw [h3]
    exact Or.inl ⟨h1, h.next (by omega) (by omega)⟩
  · exact Or.inr ⟨h1, h3, h.2.1.trans (FrS.of FrE.expect)⟩
theorem GS.kind {s : Int} {v0 v : Mem} {u : Nat → Int} {n la i0 i st dp sc k : Nat} {G : Fn} {L : Sc} {a : Ac} {nf : List Nat} {tf : List Int} {mx : Nat} (h : GS s v0 v u n la i0 i st dp sc k G L a nf tf mx) : f_155 (v 22 10) v = kd u n i := by
  exact h.1.1.1.kind
theorem GS.aimr {s : Int} {v0 v : Mem} {u : Nat → Int} {n la i0 i st dp sc k : Nat} {G : Fn} {L : Sc} {a b : Ac} {x y z idx : Int} {nf : List Nat} {tf : List Int} {mx : Nat} {t : Int} {d : Nat} {Q : Int → Mem → Prop} (h : GS s v0 v u n la i0 i st dp sc k G L (a ++ (x, y, z) :: b) nf tf mx) (h1 : s = 1 → idx = ((v0 8 3).toNat + a.length : Nat)) (h0 : s = 0 → idx = -1) (hq : ∀ v', GS s v0 v' u n la i0 i st dp sc k G L (a ++ (x, (((v0 8 3).toNat + a.length + 1 + b.length : Nat) : Int), z) :: b) nf tf mx → Q 0 v') : RR t d 11 [(2, 8), (0, idx)] v Q := by
  obtain ⟨c, hc, hc2⟩ := h.1.1.pc
  exact aim_rr (by rw [hc]; omega) (hq _ (h.aim h1 h0))
/-- a BLOCK on the way -/
theorem blk_k {s t : Int} {u : Nat → Int} {n la : Nat} {G : Fn} {f : Nat} (hB : KB s t u n la G f) {i0 i st dp sc k d mx : Nat} {v0 v : Mem} {Q : Int → Mem → Prop} {L : Sc} {rt : Int} {a : Ac} {nf : List Nat} {tf : List Int} {r : Except Nat (Jvm.Term × Nat × Nat × Nat)} (hp : PS (kd u n) f 0 i st dp sc = some r) (hd : dB dp + 2 ≤ d) (h : GS s v0 v u n la i0 i st dp sc k G L a nf tf mx) (hrt : s = 1 → f_27 (v0 22 11) v0 = rt) (he : ∀ j v', r = .error j → CXs v0 v' u n la j → Q 0 v') (hk : ∀ b i1 st1 sc1 v', r = .ok (b, i1, st1, sc1) → GS s v0 v' u n la i0 i1 st1 dp sc (k + 1) G L (a ++ coK u n G L b ((v0 8 3).toNat + a.length)) (nf ++ nfB u n G L b) (tf ++ tfB u n G rt L b) (mxB u n G mx L b) → Q 0 v') : RR t d 90 [(2, 22)] v Q := by
  refine hB i st dp sc r hp d v Q L rt mx hd h.1 (fun hs => by have := (h.room hs).1; omega) (fun hs => ?_) h.2.2.2.2.2 ?_
  · rw [h.2.1.2.1 11 (by omega), f27_fr h.2.1]; exact hrt hs
  · match r, he, hk with
    | .error j, he, hk => exact fun v' hx => he j v' rfl ⟨hx.1, h.2.1.trans hx.2⟩
    | .ok (b, i1, st1, sc1), he, hk => exact fun v' g => hk b i1 st1 sc1 v' rfl ((h.subS g).eq (fun hs => by rw [(h.pc hs).1]) (fun _ => rfl) (fun _ => rfl) (fun _ => rfl))
theorem repeat_k {s t : Int} {u : Nat → Int} {n la : Nat} {G : Fn} {L : Sc} {f : Nat} (hE : KE s t u n la G L f) (hB : KB s t u n la G f) {i st dp sc d mx : Nat} {v w : Mem} {Q : Int → Mem → Prop} {rt : Int} {r : Except Nat (Jvm.Term × Nat × Nat × Nat)} (hp : PS (kd u n) (f + 1) 2 i st dp sc = some r) (hd : dB dp ≤ d + 2) (h : PB s v w u n la i st dp G L []) (h0 : PA s v u n la i st dp sc G L mx) (hrt : s = 1 → f_27 (v 22 11) v = rt) (hk : kd u n i = 25) (hq : PoSc s Q v u n la i dp G L rt mx r) : RR t (d + 1) 95 [(2, 22)] w (fun x4 v4 => LL t (d + 2) 91 233 [(2, 22)] [] v4 Q) := by
  have hdp := h0.2.2.2.1
  have hd1 : dB (dp + 1) + 2 ≤ d := by unfold dB at *; omega
  have hd2 : 500 ≤ d := by unfold dB at hd1; omega
  have hsc0 : ∃ c : Nat, v 28 2 = c ∧ c ≤ 30 := ⟨sc, h0.1.2.2.2.1, h0.1.2.2.2.2⟩
  rw [PS_2, if_neg (by rw [hk]; have := h0.2.2.1; have : skd 25 = 4 := rfl; omega), if_neg (by omega), if_neg (by omega)] at hp
  have hl := h.1.adv2 i 5 (by omega) (by rw [hk]; decide +kernel)
  obtain ⟨g, go, gp⟩ := h.next h0 4 (by omega) hl
  have h8 := g.h8
  refine s_95 (d := d) ?_
  have bad : ∀ j, r = .error j → ∀ v1, CXs v v1 u n la j → RR t d 90 [(2, 22)] (m_10 0 0 0 (m_10 3 0 0 v1)) (fun x2 v2 => (RR t d 11 [(2, 8), (0, (f_10 3 0 0 v1))] (m_10 2 (m_122 w 8 3) 0 v2) (fun x3 v3 => LL t (d + 2) 91 233 [(2, 22)] [] v3 Q))) := by
    intro j e v1 hx
    subst e
    exact ((hx.act _ _ _).act _ _ _).blk hsc0 (by omega) (CXs.aimr (((hx.act _ _ _).act _ _ _).act _ _ _) h8 (fun v' h' => epi_x h' hq))
  rcases bndE_some hp with ⟨j, h1, e0⟩ | ⟨e, i1, s1, h1, h2⟩
  · refine rowOf_k hE h1 (by unfold dN; omega) go (fun j' v' e1 hx => ?_) (fun e i1 s1 v' e1 => by cases e1)
    cases e1
    exact bad j e0 _ (CXs.of g.2.1 hx)
  · rw [if_pos (Or.inr hk)] at h2
    refine rowOf_k hE h1 (by unfold dN; omega) go (fun j' v' e1 hx => by cases e1) (fun e' i1' s1' v1 e1 g1 hs1 => ?_)
    cases e1
    have g2 := g.sub g1
    obtain ⟨g3, f3, f3'⟩ := GS.act (k := 3) g2 3 0 0 (by omega)
    obtain ⟨g4, -, -⟩ := GS.act (k := 2) g3 0 0 0 (by omega)
    rcases bndS_some h2 with ⟨j, h3, e0⟩ | ⟨b, i2, st2, sc2, h3, h4⟩
    · refine blk_k hB h3 hd1 g4 hrt (fun j' v' e1 hx => ?_) (fun b i2 st2 sc2 v' e1 => by cases e1)
      cases e1
      subst e0
      exact CXs.aimr (hx.act _ _ _) h8 (fun v' h' => epi_x h' hq)
    · rw [if_neg (by omega)] at h4
      have h4 : okQ (stm i e b .thrown) i2 st2 sc = some r := h4
      cases h4
      refine blk_k hB h3 hd1 g4 hrt (fun j' v' e1 hx => by cases e1) (fun b' i2' st2' sc2' v5 e1 g5 => ?_)
      cases e1
      obtain ⟨g6, -, -⟩ := GS.act (k := 2) g5 2 (m_122 w 8 3) 0 (by omega)
      have g6' := g6.eq (b := ([(0, 0, 0)] ++ (([] : Ac) ++ coE u n G L e ((m_122 w 8 3).toNat + ([] : Ac).length))) ++ (3, 0, 0) :: ((0, 0, 0) :: (coK u n G L b ((v 8 3).toNat + (([(0, 0, 0)] ++ (([] : Ac) ++ coE u n G L e ((m_122 w 8 3).toNat + ([] : Ac).length))) ++ [(3, 0, 0)] ++ [(0, 0, 0)]).length) ++ [(2, m_122 w 8 3, 0)]))) (fun _ => by simp only [List.append_assoc, List.cons_append, List.nil_append]) (fun _ => rfl) (fun _ => rfl) (fun _ => rfl)
      refine GS.aimr g6' f3 f3' (fun v7 g7 => epi_k (k := 1) g7 (fun v8 g8 => hq v8 ?_))
      have e1 : scB u n G L (stm i e b .thrown) = L := by
        show (if kd u n i = 19 then _ else L) = L
        rw [if_neg (by omega)]
      dsimp only
      rw [e1]
      refine (g8.less (Nat.zero_le _)).eq (fun hs => ?_) (fun hs => ?_) (fun hs => ?_) (fun hs => ?_)
      · show _ = (if kd u n i = 19 then _ else if kd u n i = 2 then _ else if kd u n i = 22 then _ else if kd u n i = 21 then _ else if kd u n i = 12 then _ else if kd u n i = 25 then _ else _)
        rw [if_neg (by omega), if_neg (by omega), if_neg (by omega), if_neg (by omega), if_neg (by omega), if_pos hk]
        have gpc : m_122 w 8 3 = (((v 8 3).toNat + 1 : Nat) : Int) := (g.pc hs).2
        rw [gp hs, gpc]
        unfold coK
        simp only [List.append_assoc, List.cons_append, List.nil_append, List.length_nil, Nat.add_zero, List.length_append, List.length_cons, Nat.add_assoc, Nat.zero_add, Nat.reduceAdd]
        generalize (v 8 3).toNat = p
        generalize (coE u n G L e (p + 1)).length = le
        have e1 : p + (1 + (le + 2)) = p + (le + 3) := by omega
        have e2 : ∀ x y : Nat, p + (1 + (le + (2 + (x + (y + 1))))) = p + (le + (2 + (x + (y + 2)))) := by intros; omega
        rw [e1, e2]
      · show _ = (if kd u n i = 19 then _ else if kd u n i = 2 then _ else nfE u n G L e ++ (nfB u n G L b ++ []))
        rw [if_neg (by omega), if_neg (by omega)]
        simp only [List.append_nil, List.nil_append]
      · show _ = (if kd u n i = 19 ∨ kd u n i = 21 ∨ kd u n i = 12 then tfE u n G L [] e else if kd u n i = 2 then _ else if kd u n i = 22 then _ else (tfE u n G L [] e ++ wt 0 (tyE u n G L e) (fstT u n e)) ++ (tfB u n G rt L b ++ []))
        rw [if_neg (by omega), if_neg (by omega), if_neg (by omega)]
        simp only [List.append_nil, List.nil_append]
      · show _ = (if kd u n i = 19 then _ else mxB u n G mx L b)
        rw [if_neg (by omega)]
