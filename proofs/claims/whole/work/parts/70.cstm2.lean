/-! The class's walk over an S: let, NAME =, return, print, do. -/
theorem row_k {s t : Int} {u : Nat → Int} {n la : Nat} {G : Fn} {L : Sc} {f : Nat} (hE : KE s t u n la G L f) {x : Jvm.Term} {i sg nb : Nat} {r : Except Nat (Jvm.Term × Nat × Nat)} (hp : PE (kd u n) f 0 x i sg nb = some r) {d k : Nat} {v0 v : Mem} {Q : Int → Mem → Prop} {i0 : Nat} {a : Ac} {nf : List Nat} {tf : List Int} (hd : dN nb sg 12 ≤ d) (h : GO s v0 v u n la i0 i sg nb k G L a nf tf)
    (he : ∀ j y v', r = .error j → CXf v0 v' u n la j → Q y v') (hk : ∀ e i1 s1 y v', r = .ok (e, i1, s1) → GO s v0 v' u n la i0 i1 s1 nb k G L (a ++ coE u n G L e ((v0 8 3).toNat + a.length)) (nf ++ nfE u n G L e) (tf ++ tfE u n G L [] e) → (s = 1 → y = tyE u n G L e) → Q y v') : RR t d 100 [(2, 22), (0, 0)] v Q := by
  have := hE 0 x i sg nb r (by omega) hp d v Q hd h.1 (fun hs => by have := (h.room hs).1; omega)
  refine this ?_
  match r, he, hk with
  | .error j, he, hk => exact fun y v' hx => he j y _ rfl (hx.of h.2.1)
  | .ok (e, i1, s1), he, hk =>
    intro y v' g hy hf hs1
    dsimp only at g hy hf hs1
    exact hk e i1 s1 y v' rfl (h.sub g) hy
/-- an S has begun -/
def PB (s : Int) (v w : Mem) (u : Nat → Int) (n la i st dp : Nat) (G : Fn) (L : Sc) (nf : List Nat) : Prop := CG s w u n la i 0 0 G L ∧ w 22 12 = ((st + 1 : Nat) : Int) ∧ w 22 13 = ((dp + 1 : Nat) : Int) ∧ w 28 = v 28 ∧ FrS v w ∧ OW s v w [(0, 0, 0)] nf [] ∧ (s = 1 → w 8 3 = v 8 3 + 1)
theorem PB.fnm {s : Int} {v w : Mem} {u : Nat → Int} {n la i st dp : Nat} {G : Fn} {L : Sc} {nf : List Nat} (h : PB s v w u n la i st dp G L nf) (p : Nat) : PB s v (m_125 (p : Int) w) u n la i st dp G L (nf ++ [p]) := by
  obtain ⟨a1, a2, a3, a4, a5, a6, a7⟩ := h
  obtain ⟨h1, h2, h3⟩ := a1.fnm p
  refine ⟨h1, by rw [fnm_at (by decide)]; exact a2, by rw [fnm_at (by decide)]; exact a3, by rw [fnm_cell (by decide)]; exact a4, a5.trans (FrS.of FrE.fnm), ?_, fun hs => by rw [h3]; exact a7 hs⟩
  have := a6.trans h2
  simp only [List.append_nil] at this
  exact this
/-- what is known as an S begins -/
def PA (s : Int) (v : Mem) (u : Nat → Int) (n la i st dp sc : Nat) (G : Fn) (L : Sc) (mx : Nat) : Prop := SX s v u n la i st dp sc G L ∧ (s = 1 → v 8 3 ≤ (ps u n i : Int)) ∧ st < 300 ∧ dp < 8 ∧ (s = 1 → v 28 3 = (mx : Nat))
theorem PB.next {s : Int} {v w : Mem} {u : Nat → Int} {n la i st dp sc mx : Nat} {G : Fn} {L : Sc} {nf : List Nat} (h : PB s v w u n la i st dp G L nf) (h0 : PA s v u n la i st dp sc G L mx) (l : Nat) (hk : kd u n i ≠ 0) (hl : ps u n i + (l + 1) ≤ ps u n (i + 1)) : GS s v (m_122 w) u n la i (i + 1) (st + 1) (dp + 1) sc l G L [(0, 0, 0)] nf [] mx ∧ GO s (m_122 w) (m_122 w) u n la (i + 1) (i + 1) 0 0 0 G L [] [] [] ∧ (s = 1 → (m_122 w 8 3).toNat = (v 8 3).toNat + 1) := by
  obtain ⟨a1, a2, a3, a4, a5, a6, a7⟩ := h
  obtain ⟨b1, b2, b3, b4, b5⟩ := h0
  have g := pro_n b1 b2 b3 b4 hk hl b5 a1 a2 a3 a4 a5 a6 a7
  obtain ⟨g1, g2, g3⟩ := a1.next hk
  refine ⟨g, GO.start g1 (fun hs => by have := (g.room hs).1; omega), fun hs => (g.pc hs).1⟩
/-- E ; and an act -/
theorem tail_k {s t : Int} {u : Nat → Int} {n la : Nat} {G : Fn} {L : Sc} {f : Nat} (hE : KE s t u n la G L f) {j : Nat} {r : Except Nat (Jvm.Term × Nat × Nat)} (hp : PE (kd u n) f 0 .null j 0 0 = some r) {d k : Nat} {v w : Mem} {Q : Int → Mem → Prop} {i0 : Nat} {nf : List Nat} {tf : List Int} {act : Int} {z : Int → Int} (hd : 490 ≤ d) (h : GO s v w u n la i0 j 0 0 k G L [] nf tf) (ha : 0 ≤ act ∧ act < 128)
    (he : ∀ e v', r = .error e → CXf v v' u n la e → Q 0 v') (hs : ∀ e i1 s1 v', r = .ok (e, i1, s1) → ¬ kd u n i1 = 59 → CXf v v' u n la i1 → Q 0 v') (hk : ∀ e i1 s1 y v', r = .ok (e, i1, s1) → kd u n i1 = 59 → (s = 1 → y = tyE u n G L e) → GO s v v' u n la i0 (i1 + 1) s1 0 k G L (coE u n G L e (v 8 3).toNat ++ [(act, z y, 0)]) (nf ++ nfE u n G L e) (tf ++ tfE u n G L [] e) → Q 0 v') : RR t d 100 [(2, 22), (0, 0)] w (fun y v1 => Q 0 (m_10 act (z y) 0 (m_123 59 v1))) := by
  refine row_k hE hp (by unfold dN; omega) h (fun e y v' e1 hx => he e _ e1 ((hx.expect 59).act _ _ _)) (fun e i1 s1 y v' e1 g hy => ?_)
  rcases g.expect (c := 59) (by omega) with ⟨k59, g2⟩ | ⟨k59, g2⟩
  · obtain ⟨g3, -, -⟩ := g2.act act (z y) 0 ha
    exact hk e i1 s1 y _ e1 k59 hy (g3.eq (fun _ => rfl) (fun _ => rfl) (fun _ => rfl))
  · exact hs e i1 s1 _ e1 k59 (g2.act _ _ _)
theorem print_k {s t : Int} {u : Nat → Int} {n la : Nat} {G : Fn} {L : Sc} {f : Nat} (hE : KE s t u n la G L f) {i st dp sc d mx : Nat} {v w : Mem} {Q : Int → Mem → Prop} {rt : Int} {r : Except Nat (Jvm.Term × Nat × Nat × Nat)} (hp : PS (kd u n) (f + 1) 2 i st dp sc = some r) (hd : 494 ≤ d) (h : PB s v w u n la i st dp G L []) (h0 : PA s v u n la i st dp sc G L mx) (hk : kd u n i = 21) (hq : PoSc s Q v u n la i dp G L rt mx r) : RR t (d + 1) 97 [(2, 22)] w (fun x4 v4 => LL t (d + 2) 91 233 [(2, 22)] [] v4 Q) := by
  obtain ⟨d', rfl⟩ : ∃ d', d = d' + 1 := ⟨d - 1, by omega⟩
  rw [PS_2, if_neg (by rw [hk]; have := h0.2.2.1; have := h0.2.2.2.1; have : skd 21 = 6 := rfl; omega), if_neg (by omega), if_neg (by omega)] at hp
  have hl := h.1.adv2 i 5 (by omega) (by rw [hk]; decide +kernel)
  obtain ⟨g, go, gp⟩ := h.next h0 4 (by omega) hl
  refine s_97 (d := d') ?_
  rcases bndE_some hp with ⟨j, h1, rfl⟩ | ⟨e, i1, s1, h1, h2⟩
  · refine tail_k (d := d' + 1) (Q := fun _ v4 => LL t (d' + 1 + 2) 91 233 [(2, 22)] [] v4 Q) (act := 13) (z := fun y => y) hE h1 (by omega) go (by omega) (fun e v' e1 hx => ?_) (fun e i1 s1 v' e1 => by cases e1) (fun e i1 s1 y v' e1 => by cases e1)
    cases e1
    exact epi_x (CXs.of g.2.1 hx) hq
  · rw [if_neg (by omega)] at h2
    refine tail_k (d := d' + 1) (Q := fun _ v4 => LL t (d' + 1 + 2) 91 233 [(2, 22)] [] v4 Q) (act := 13) (z := fun y => y) hE h1 (by omega) go (by omega) (fun e v' e1 hx => by cases e1) (fun e' i1' s1' v' e1 k59 hx => ?_) (fun e' i1' s1' y v' e1 k59 hy g3 => ?_)
    · cases e1
      rw [if_neg k59] at h2
      have h2 : erQ i1 = some r := h2
      cases h2
      exact epi_x (CXs.of g.2.1 hx) hq
    · cases e1
      rw [if_pos k59] at h2
      have h2 : okQ (stm i e .null .thrown) (i1 + 1) (st + 1) sc = some r := h2
      cases h2
      refine epi_k (k := 3) (g.sub g3) (fun v6 g6 => hq v6 ?_)
      have e1 : scB u n G L (stm i e .null .thrown) = L := by
        show (if kd u n i = 19 then _ else L) = L
        rw [if_neg (by omega)]
      dsimp only
      rw [e1]
      refine (g6.less (Nat.zero_le _)).eq (fun hs => ?_) (fun hs => ?_) (fun hs => ?_) (fun hs => ?_)
      · show _ = (if kd u n i = 19 then _ else if kd u n i = 2 then _ else if kd u n i = 22 then _ else if kd u n i = 21 then _ else _)
        rw [if_neg (by omega), if_neg (by omega), if_neg (by omega), if_pos hk, gp hs, hy hs]
        simp only [List.append_assoc, List.cons_append, List.nil_append]
      · show _ = (if kd u n i = 19 then _ else if kd u n i = 2 then _ else nfE u n G L e ++ ([] ++ []))
        rw [if_neg (by omega), if_neg (by omega)]
        simp only [List.append_nil, List.nil_append]
      · show _ = (if kd u n i = 19 ∨ kd u n i = 21 ∨ kd u n i = 12 then tfE u n G L [] e else _)
        rw [if_pos (by omega)]; rfl
      · show _ = (if kd u n i = 19 then _ else mx)
        rw [if_neg (by omega)]
theorem forget_k {s t : Int} {u : Nat → Int} {n la : Nat} {G : Fn} {L : Sc} {f : Nat} (hE : KE s t u n la G L f) {i st dp sc d mx : Nat} {v w : Mem} {Q : Int → Mem → Prop} {rt : Int} {r : Except Nat (Jvm.Term × Nat × Nat × Nat)} (hp : PS (kd u n) (f + 1) 2 i st dp sc = some r) (hd : 494 ≤ d) (h : PB s v w u n la i st dp G L []) (h0 : PA s v u n la i st dp sc G L mx) (hk : kd u n i = 12) (hq : PoSc s Q v u n la i dp G L rt mx r) : RR t (d + 1) 98 [(2, 22)] w (fun x4 v4 => LL t (d + 2) 91 233 [(2, 22)] [] v4 Q) := by
  obtain ⟨d', rfl⟩ : ∃ d', d = d' + 1 := ⟨d - 1, by omega⟩
  rw [PS_2, if_neg (by rw [hk]; have := h0.2.2.1; have := h0.2.2.2.1; have : skd 12 = 7 := rfl; omega), if_neg (by omega), if_neg (by omega)] at hp
  have hl := h.1.adv2 i 2 (by omega) (by rw [hk]; decide +kernel)
  obtain ⟨g, go, gp⟩ := h.next h0 1 (by omega) hl
  refine s_98 (d := d') ?_
  rcases bndE_some hp with ⟨j, h1, rfl⟩ | ⟨e, i1, s1, h1, h2⟩
  · refine tail_k (d := d' + 1) (Q := fun _ v4 => LL t (d' + 1 + 2) 91 233 [(2, 22)] [] v4 Q) (act := 12) (z := fun y => 0) hE h1 (by omega) go (by omega) (fun e v' e1 hx => ?_) (fun e i1 s1 v' e1 => by cases e1) (fun e i1 s1 y v' e1 => by cases e1)
    cases e1
    exact epi_x (CXs.of g.2.1 hx) hq
  · rw [if_neg (by omega)] at h2
    refine tail_k (d := d' + 1) (Q := fun _ v4 => LL t (d' + 1 + 2) 91 233 [(2, 22)] [] v4 Q) (act := 12) (z := fun y => 0) hE h1 (by omega) go (by omega) (fun e v' e1 hx => by cases e1) (fun e' i1' s1' v' e1 k59 hx => ?_) (fun e' i1' s1' y v' e1 k59 hy g3 => ?_)
    · cases e1
      rw [if_neg k59] at h2
      have h2 : erQ i1 = some r := h2
      cases h2
      exact epi_x (CXs.of g.2.1 hx) hq
    · cases e1
      rw [if_pos k59] at h2
      have h2 : okQ (stm i e .null .thrown) (i1 + 1) (st + 1) sc = some r := h2
      cases h2
      refine epi_k (k := 0) (g.sub g3) (fun v6 g6 => hq v6 ?_)
      have e1 : scB u n G L (stm i e .null .thrown) = L := by
        show (if kd u n i = 19 then _ else L) = L
        rw [if_neg (by omega)]
      dsimp only
      rw [e1]
      refine (g6.less (Nat.zero_le _)).eq (fun hs => ?_) (fun hs => ?_) (fun hs => ?_) (fun hs => ?_)
      · show _ = (if kd u n i = 19 then _ else if kd u n i = 2 then _ else if kd u n i = 22 then _ else if kd u n i = 21 then _ else if kd u n i = 12 then _ else _)
        rw [if_neg (by omega), if_neg (by omega), if_neg (by omega), if_neg (by omega), if_pos hk, gp hs]
        simp only [List.append_assoc, List.cons_append, List.nil_append]
      · show _ = (if kd u n i = 19 then _ else if kd u n i = 2 then _ else nfE u n G L e ++ ([] ++ []))
        rw [if_neg (by omega), if_neg (by omega)]
        simp only [List.append_nil, List.nil_append]
      · show _ = (if kd u n i = 19 ∨ kd u n i = 21 ∨ kd u n i = 12 then tfE u n G L [] e else _)
        rw [if_pos (by omega)]; rfl
      · show _ = (if kd u n i = 19 then _ else mx)
        rw [if_neg (by omega)]
theorem f27_fr {v v' : Mem} {a : Int} (h : FrS v v') : f_27 a v' = f_27 a v := by
  unfold f_27
  rw [h.1 1 (by omega) (by omega) (by omega), h.1 5 (by omega) (by omega) (by omega)]
/-- E of a wanted type ; and an act -/
theorem tailOf_k {s t : Int} {u : Nat → Int} {n la : Nat} {G : Fn} {L : Sc} {f : Nat} (hE : KE s t u n la G L f) {j : Nat} {r : Except Nat (Jvm.Term × Nat × Nat)} (hp : PE (kd u n) f 0 .null j 0 0 = some r) {d k : Nat} {v w : Mem} {Q : Int → Mem → Prop} {i0 : Nat} {nf : List Nat} {tf : List Int} {act z due : Int} (hd : 490 ≤ d) (h : GO s v w u n la i0 j 0 0 k G L [] nf tf) (ha : 0 ≤ act ∧ act < 128)
    (he : ∀ e v', r = .error e → CXf v v' u n la e → Q 0 v') (hs : ∀ e i1 s1 v', r = .ok (e, i1, s1) → ¬ kd u n i1 = 59 → CXf v v' u n la i1 → Q 0 v') (hk : ∀ e i1 s1 v', r = .ok (e, i1, s1) → kd u n i1 = 59 → GO s v v' u n la i0 (i1 + 1) s1 0 k G L (coE u n G L e (v 8 3).toNat ++ [(act, z, 0)]) (nf ++ nfE u n G L e) (tf ++ (tfE u n G L [] e ++ wt due (tyE u n G L e) (fstT u n e))) → Q 0 v') : RR t d 99 [(2, 22), (0, due)] w (fun y v1 => Q 0 (m_10 act z 0 (m_123 59 v1))) := by
  refine rowOf_k hE hp (by unfold dN; omega) h (fun e v' e1 hx => he e _ e1 ((hx.expect 59).act _ _ _)) (fun e i1 s1 v' e1 g _ => ?_)
  rcases g.expect (c := 59) (by omega) with ⟨k59, g2⟩ | ⟨k59, g2⟩
  · obtain ⟨g3, -, -⟩ := g2.act act z 0 ha
    exact hk e i1 s1 _ e1 k59 (g3.eq (fun _ => rfl) (fun _ => rfl) (fun _ => rfl))
  · exact hs e i1 s1 _ e1 k59 (g2.act _ _ _)
theorem return_k {s t : Int} {u : Nat → Int} {n la : Nat} {G : Fn} {L : Sc} {f : Nat} (hE : KE s t u n la G L f) {i st dp sc d mx : Nat} {v w : Mem} {Q : Int → Mem → Prop} {rt : Int} {r : Except Nat (Jvm.Term × Nat × Nat × Nat)} (hp : PS (kd u n) (f + 1) 2 i st dp sc = some r) (hd : 494 ≤ d) (h : PB s v w u n la i st dp G L []) (h0 : PA s v u n la i st dp sc G L mx) (hrt : s = 1 → f_27 (v 22 11) v = rt) (hk : kd u n i = 22) (hq : PoSc s Q v u n la i dp G L rt mx r) : RR t (d + 1) 96 [(2, 22)] w (fun x4 v4 => LL t (d + 2) 91 233 [(2, 22)] [] v4 Q) := by
  obtain ⟨d', rfl⟩ : ∃ d', d = d' + 1 := ⟨d - 1, by omega⟩
  rw [PS_2, if_neg (by rw [hk]; have := h0.2.2.1; have := h0.2.2.2.1; have : skd 22 = 5 := rfl; omega), if_neg (by omega), if_neg (by omega)] at hp
  have hl := h.1.adv2 i 6 (by omega) (by rw [hk]; decide +kernel)
  obtain ⟨g, go, gp⟩ := h.next h0 5 (by omega) hl
  have er : f_27 (m_122 w 22 11) (m_122 w) = f_27 (v 22 11) v := by
    rw [g.2.1.2.1 11 (by omega)]
    exact f27_fr g.2.1
  refine s_96 (d := d') ?_
  rw [er]
  rcases bndE_some hp with ⟨j, h1, rfl⟩ | ⟨e, i1, s1, h1, h2⟩
  · refine tailOf_k (d := d' + 1) (Q := fun _ v4 => LL t (d' + 1 + 2) 91 233 [(2, 22)] [] v4 Q) (act := 6) (z := 0) hE h1 (by omega) go (by omega) (fun e v' e1 hx => ?_) (fun e i1 s1 v' e1 => by cases e1) (fun e i1 s1 v' e1 => by cases e1)
    cases e1
    exact epi_x (CXs.of g.2.1 hx) hq
  · rw [if_neg (by omega)] at h2
    refine tailOf_k (d := d' + 1) (Q := fun _ v4 => LL t (d' + 1 + 2) 91 233 [(2, 22)] [] v4 Q) (act := 6) (z := 0) hE h1 (by omega) go (by omega) (fun e v' e1 hx => by cases e1) (fun e' i1' s1' v' e1 k59 hx => ?_) (fun e' i1' s1' v' e1 k59 g3 => ?_)
    · cases e1
      rw [if_neg k59] at h2
      have h2 : erQ i1 = some r := h2
      cases h2
      exact epi_x (CXs.of g.2.1 hx) hq
    · cases e1
      rw [if_pos k59] at h2
      have h2 : okQ (stm i e .null .thrown) (i1 + 1) (st + 1) sc = some r := h2
      cases h2
      refine epi_k (k := 4) (g.sub g3) (fun v6 g6 => hq v6 ?_)
      have e1 : scB u n G L (stm i e .null .thrown) = L := by
        show (if kd u n i = 19 then _ else L) = L
        rw [if_neg (by omega)]
      dsimp only
      rw [e1]
      refine (g6.less (Nat.zero_le _)).eq (fun hs => ?_) (fun hs => ?_) (fun hs => ?_) (fun hs => ?_)
      · show _ = (if kd u n i = 19 then _ else if kd u n i = 2 then _ else if kd u n i = 22 then _ else _)
        rw [if_neg (by omega), if_neg (by omega), if_pos hk, gp hs]
        simp only [List.append_assoc, List.cons_append, List.nil_append]
      · show _ = (if kd u n i = 19 then _ else if kd u n i = 2 then _ else nfE u n G L e ++ ([] ++ []))
        rw [if_neg (by omega), if_neg (by omega)]
        simp only [List.append_nil, List.nil_append]
      · show _ = (if kd u n i = 19 ∨ kd u n i = 21 ∨ kd u n i = 12 then tfE u n G L [] e else if kd u n i = 2 then _ else if kd u n i = 22 then _ else _)
        rw [if_neg (by omega), if_neg (by omega), if_pos hk, ← hrt hs]; rfl
      · show _ = (if kd u n i = 19 then _ else mx)
        rw [if_neg (by omega)]
