/-! The class's walk over an E: ( E ), len, digits, sign, find. -/
theorem group_k {s t : Int} {u : Nat → Int} {n la : Nat} {G : Fn} {L : Sc} {f : Nat} (hE : KE s t u n la G L f) {x : Jvm.Term} {i sg nb d : Nat} {v : Mem} {Q : Int → Mem → Prop} {r : Except Nat (Jvm.Term × Nat × Nat)} (hp : PE (kd u n) (f + 1) 7 x i sg nb = some r) (hd : dN nb sg 3 ≤ d) (hg : CG s v u n la i sg nb G L) (hr : s = 1 → v 8 3 ≤ (ps u n i : Int)) (hk : kd u n i = 40) (hq : PoC s Q v u n la nb sg i G L r) : RR t d 112 [(2, 22)] v Q := by
  obtain ⟨d', rfl⟩ : ∃ d', d = d' + 2 := ⟨d - 2, by unfold dN at hd; omega⟩
  have hd20 : 20 ≤ d' := by unfold dN at hd; omega
  rw [PE_7, if_neg (by omega), if_neg (by omega), if_pos hk] at hp
  refine s_112 (d := d') ?_
  rcases (GO.start hg hr).opn (c := 40) (by omega) with ⟨-, h8, g1⟩ | ⟨h8, g1⟩
  · rw [if_neg (by omega)] at hp
    rcases bnd_some hp with ⟨j, h1, rfl⟩ | ⟨e, i1, s1, h1, h2⟩
    · refine hE 0 x (i + 1) sg (nb + 1) _ (by omega) h1 (d' + 1) _ _ (by unfold dN at *; omega) g1.1 (fun hs => by have := (g1.room hs).1; omega) ?_
      exact fun y v' hx => hq _ _ ((hx.of g1.2.1).shut _)
    · refine hE 0 x (i + 1) sg (nb + 1) _ (by omega) h1 (d' + 1) _ _ (by unfold dN at *; omega) g1.1 (fun hs => by have := (g1.room hs).1; omega) ?_
      intro y v' g2 hy hf hs1
      dsimp only at g2 hy hf hs1
      rcases (g1.sub g2).shut (c := 41) (by omega) with ⟨k41, g3⟩ | ⟨k41, g3⟩
      · rw [if_pos k41] at h2
        have h2 : okP (.elem (.arg i) e) (i1 + 1) s1 = some r := h2
        cases h2
        exact hq _ _ ((g3.less (Nat.zero_le _)).eq (fun _ => rfl) (fun _ => rfl) (fun _ => rfl)) hy rfl hs1
      · rw [if_neg k41] at h2
        have h2 : erP i1 = some r := h2
        cases h2
        exact hq _ _ g3
  · have h8' : 8 ≤ nb := by
      rcases Nat.lt_or_ge nb 8 with h9 | h9
      · exact absurd ⟨hk, h9⟩ h8
      · exact h9
    rw [if_pos h8'] at hp
    have hp : erP i = some r := hp
    cases hp
    exact g1.row (l := 0) (by omega) (by omega) (hq _ _ (g1.shut _))
theorem ofOne_k {s t : Int} {u : Nat → Int} {n la : Nat} {G : Fn} {L : Sc} {f : Nat} (hE : KE s t u n la G L f) {x : Jvm.Term} {i sg nb d : Nat} {v : Mem} {Q : Int → Mem → Prop} {r : Except Nat (Jvm.Term × Nat × Nat)} {a due ty : Int} (hp : PE (kd u n) (f + 1) 7 x i sg nb = some r) (hd : dN nb sg 3 ≤ d) (hg : CG s v u n la i sg nb G L) (hr : s = 1 → v 8 3 ≤ (ps u n i : Int)) (hk : kd u n i = 18 ∨ kd u n i = 11 ∨ kd u n i = 23) (ha : a = oneA (kd u n i)) (hdue : due = (if kd u n i = 18 then 1 else 0)) (hty : ty = (if kd u n i = 18 then 0 else 1)) (hq : PoC s Q v u n la nb sg i G L r) : RR t d 113 [(2, 22), (0, a), (0, due), (0, ty)] v Q := by
  obtain ⟨d', rfl⟩ : ∃ d', d = d' + 2 := ⟨d - 2, by unfold dN at hd; omega⟩
  have hd20 : 20 ≤ d' := by unfold dN at hd; omega
  have ha2 : 0 ≤ a ∧ a < 128 := by
    rw [ha]; unfold oneA
    rcases hk with e | e | e <;> (rw [e]; decide)
  rw [PE_7, if_neg (by omega), if_neg (by omega), if_neg (by omega), if_pos hk] at hp
  refine s_113 (d := d') ?_
  rcases (GO.start hg hr).sign with ⟨hs, g⟩ | ⟨hs, g⟩
  · rw [if_neg (by omega)] at hp
    rcases (g.next (by omega) (by omega)).opn (c := 40) (by omega) with ⟨h40, h8, g1⟩ | ⟨h8, g1⟩
    · rw [if_pos ⟨h40, h8⟩] at hp
      rcases bnd_some hp with ⟨j, h1, rfl⟩ | ⟨e, i1, s1, h1, h2⟩
      · refine rowOf_k hE h1 (by unfold dN at *; omega) g1 (fun j' v' e hx => ?_) (fun e i1 s1 v' e' => by cases e')
        cases e
        exact hq _ _ ((hx.shut 41).act _ _ _)
      · refine rowOf_k hE h1 (by unfold dN at *; omega) g1 (fun j' v' e hx => by cases e) (fun e' i1' s1' v3 e'' g3 hs3 => ?_)
        cases e''
        rcases g3.shut (c := 41) (by omega) with ⟨k41, g4⟩ | ⟨k41, g4⟩
        · rw [if_pos k41] at h2
          have h2 : okP (.op2 .iand (.arg i) e) (i1 + 1) s1 = some r := h2
          cases h2
          obtain ⟨g5, -, -⟩ := g4.act a 0 0 ha2
          refine hq _ _ ((g5.less (Nat.zero_le _)).eq (fun _ => ?_) (fun _ => rfl) (fun _ => ?_)) (fun _ => hty) rfl (by dsimp only; omega)
          · rw [ha]; rfl
          · rw [hdue]; rfl
        · rw [if_neg k41] at h2
          have h2 : erP i1 = some r := h2
          cases h2
          exact hq _ _ (g4.act _ _ _)
    · rw [if_neg h8] at hp
      have hp : erP (i + 1) = some r := hp
      cases hp
      exact g1.rowOf (by omega) (fun v1 hx => hq _ _ ((hx.shut _).act _ _ _))
  · rw [if_pos hs] at hp
    have hp : erP i = some r := hp
    cases hp
    exact (g.next.opn 40).rowOf (by omega) (fun v1 hx => hq _ _ ((hx.shut _).act _ _ _))
theorem find_k {s t : Int} {u : Nat → Int} {n la : Nat} {G : Fn} {L : Sc} {f : Nat} (hE : KE s t u n la G L f) {x : Jvm.Term} {i sg nb d : Nat} {v : Mem} {Q : Int → Mem → Prop} {r : Except Nat (Jvm.Term × Nat × Nat)} (hp : PE (kd u n) (f + 1) 7 x i sg nb = some r) (hd : dN nb sg 3 ≤ d) (hg : CG s v u n la i sg nb G L) (hr : s = 1 → v 8 3 ≤ (ps u n i : Int)) (hk : kd u n i = 14) (hq : PoC s Q v u n la nb sg i G L r) : RR t d 114 [(2, 22)] v Q := by
  obtain ⟨d', rfl⟩ : ∃ d', d = d' + 2 := ⟨d - 2, by unfold dN at hd; omega⟩
  have hd20 : 20 ≤ d' := by unfold dN at hd; omega
  rw [PE_7, if_neg (by omega), if_neg (by omega), if_neg (by omega), if_neg (by omega), if_pos hk] at hp
  refine s_114 (d := d') ?_
  rcases (GO.start hg hr).sign with ⟨hs, g⟩ | ⟨hs, g⟩
  · rw [if_neg (by omega)] at hp
    rcases (g.next (by omega) (by omega)).opn (c := 40) (by omega) with ⟨h40, h8, g1⟩ | ⟨h8, g1⟩
    · rw [if_pos ⟨h40, h8⟩] at hp
      rcases bnd_some hp with ⟨j, h1, rfl⟩ | ⟨a, i1, s1, h1, h2⟩
      · refine rowOf_k hE h1 (by unfold dN at *; omega) g1 (fun j' v' e hx => ?_) (fun e i1 s1 v' e' => by cases e')
        cases e
        exact (hx.expect 44).rowOf (by omega) (fun v1 hx => hq _ _ ((hx.shut _).act _ _ _))
      · refine rowOf_k hE h1 (by unfold dN at *; omega) g1 (fun j' v' e hx => by cases e) (fun e' i1' s1' v3 e'' g3 hs3 => ?_)
        cases e''
        rcases g3.expect (c := 44) (by omega) with ⟨k44, g4⟩ | ⟨k44, g4⟩
        · rw [if_pos k44] at h2
          rcases bnd_some h2 with ⟨j, h3, rfl⟩ | ⟨b, i2, s2, h3, h4⟩
          · refine rowOf_k hE h3 (by unfold dN at *; omega) g4 (fun j' v' e hx => ?_) (fun e i1 s1 v' e' => by cases e')
            cases e
            exact hq _ _ ((hx.shut 41).act _ _ _)
          · refine rowOf_k hE h3 (by unfold dN at *; omega) g4 (fun j' v' e hx => by cases e) (fun e' i2' s2' v5 e'' g5 hs5 => ?_)
            cases e''
            rcases g5.shut (c := 41) (by omega) with ⟨k41, g6⟩ | ⟨k41, g6⟩
            · rw [if_pos k41] at h4
              have h4 : okP (.op2 .ior (.arg i) (.sub a b)) (i2 + 1) s2 = some r := h4
              cases h4
              obtain ⟨g7, -, -⟩ := g6.act 23 0 0 (by omega)
              refine hq _ _ ((g7.less (Nat.zero_le _)).eq (fun _ => ?_) (fun _ => rfl) (fun _ => ?_)) (fun _ => rfl) rfl (by dsimp only; omega)
              · show _ = (coE u n G L a (v 8 3).toNat ++ coE u n G L b ((v 8 3).toNat + (coE u n G L a (v 8 3).toNat).length)) ++ [(23, 0, 0)]
                rfl
              · show _ = tfE u n G L [] a ++ (wt 1 (tyE u n G L a) (fstT u n a) ++ (tfE u n G L [] b ++ wt 1 (tyE u n G L b) (fstT u n b)))
                simp only [List.nil_append, List.append_assoc]
            · rw [if_neg k41] at h4
              have h4 : erP i2 = some r := h4
              cases h4
              exact hq _ _ (g6.act _ _ _)
        · rw [if_neg k44] at h2
          have h2 : erP i1 = some r := h2
          cases h2
          exact g4.rowOf (by omega) (fun v1 hx => hq _ _ ((hx.shut _).act _ _ _))
    · rw [if_neg h8] at hp
      have hp : erP (i + 1) = some r := hp
      cases hp
      exact g1.rowOf (by omega) (fun v1 hx => (hx.expect 44).rowOf (by omega) (fun v1 hx => hq _ _ ((hx.shut _).act _ _ _)))
  · rw [if_pos hs] at hp
    have hp : erP i = some r := hp
    cases hp
    exact (g.next.opn 40).rowOf (by omega) (fun v1 hx => (hx.expect 44).rowOf (by omega) (fun v1 hx => hq _ _ ((hx.shut _).act _ _ _)))
/-! A call and what is handed over. -/
def K17 (s t : Int) (u : Nat → Int) (n la : Nat) (G : Fn) (L : Sc) (f : Nat) : Prop := ∀ (x : Jvm.Term) (i sg nb : Nat) (r : Except Nat (Jvm.Term × Nat × Nat)), PE (kd u n) f 17 x i sg nb = some r → ∀ (d : Nat) (v0 v : Mem) (Q : Int → Mem → Prop) (i0 k h : Nat) (cal w : Int) (a : Ac) (nf : List Nat) (tf : List Int), dN nb sg 14 ≤ d → GO s v0 v u n la i0 i sg nb k G L a nf tf → (s = 1 → cal = fno G w) → h < i →
  (match r with
    | .error j => ∀ y v', CXf v0 v' u n la j → Q y v'
    | .ok q => ∀ v', GO s v0 v' u n la i0 q.2.1 q.2.2 nb k G L (a ++ coE u n G L q.1 ((v0 8 3).toNat + a.length)) (nf ++ nfE u n G L q.1) (tf ++ tfE u n G L ((fnP G w).drop h) q.1) → sg ≤ q.2.2 → h + argc q.1 ≤ 3001 → Q ((h + argc q.1 : Nat) : Int) v') → LL t d 116 4 [(2, 22), (0, cal), (0, (h : Int)), (0, (h : Int)), (3, 0), (3, 0)] [] v Q
theorem cx_hand {t : Int} {v0 v : Mem} {u : Nat → Int} {n la j d : Nat} {Q : Int → Mem → Prop} {b : Int} {h h' : Nat} (hx : CXf v0 v u n la j) (hd : 12 ≤ d) (hh : h < 3002) (hq : ∀ y v', CXf v0 v' u n la j → Q y v') : LL t d 116 4 [(2, 22), (0, b), (0, (h : Int)), (0, (h' : Int)), (3, 0), (3, 0)] [] v Q := by
  obtain ⟨d', rfl⟩ : ∃ d', d = d' + 2 := ⟨d - 2, by omega⟩
  refine s_116_4 (d := d') ⟨fun _ => hx.row (l := 0) (by omega) (by omega) ⟨fun _ => ?_, fun _ => ?_⟩, fun _ => hq _ _ hx⟩
  · refine p26 (fun y _ => ?_)
    rw [(hx.want _ _ _).1.kind]
    exact ⟨fun c => absurd c (by decide), fun _ => hq _ _ (hx.want _ _ _)⟩
  · rw [hx.1.kind]
    exact ⟨fun c => absurd c (by decide), fun _ => hq _ _ hx⟩
theorem K17_step {s t : Int} {u : Nat → Int} {n la : Nat} {G : Fn} {L : Sc} {f : Nat} (hE : KE s t u n la G L f) (h17 : K17 s t u n la G L f) : K17 s t u n la G L (f + 1) := by
  intro x i sg nb r hp d v0 v Q i0 k h cal w a nf tf hd hg hcal hh hq
  obtain ⟨d', rfl⟩ : ∃ d', d = d' + 2 := ⟨d - 2, by unfold dN at hd; omega⟩
  have hd20 : 20 ≤ d' := by unfold dN at hd; omega
  have hb := hg.1.bnd
  rw [PE_17] at hp
  refine s_116_4 (d := d') ⟨fun _ => ?_, fun c => absurd (by omega) c⟩
  rw [hg.1.place, wS (k := h) (m := 3001) (by omega) (by decide)]
  rcases bnd_some hp with ⟨j, h1, rfl⟩ | ⟨e, i1, s1, h1, h2⟩
  · refine hE 0 x i sg nb _ (by omega) h1 (d' + 1) _ _ (by unfold dN at *; omega) hg.1 (fun hs => by have := (hg.room hs).1; omega) ?_
    intro y v' hx0
    have hx := hx0.of hg.2.1
    refine ⟨fun _ => p26 (fun y' _ => ?_), fun _ => ?_⟩
    · rw [(hx.want _ _ _).1.kind]
      exact ⟨fun c => absurd c (by decide), fun _ => hq _ _ (hx.want _ _ _)⟩
    · rw [hx.1.kind]
      exact ⟨fun c => absurd c (by decide), fun _ => hq _ _ hx⟩
  · refine hE 0 x i sg nb _ (by omega) h1 (d' + 1) _ _ (by unfold dN at *; omega) hg.1 (fun hs => by have := (hg.room hs).1; omega) ?_
    intro ty v2 g2 hy hf hs1
    dsimp only at g2 hy hf hs1
    have g3 := hg.sub g2
    have hb3 := g3.1.bnd
    -- behind one E, its type looked at or not
    have go : ∀ (v3 : Mem), GO s v0 v3 u n la i0 i1 s1 nb k G L (a ++ coE u n G L e ((v0 8 3).toNat + a.length)) (nf ++ nfE u n G L e) (tf ++ (tfE u n G L [] e ++ (match (fnP G w).drop h with
      | [] => []
      | d :: _ => wt d (tyE u n G L e) (fstT u n e)))) → (f_155 (v3 22 10) v3 = 44 → LL t (d' + 2) 116 4 [(2, 22), (0, cal), (0, ((h + 1 : Nat) : Int)), (0, ((h + 1 : Nat) : Int)), (3, 0), (3, 0)] [] (m_122 v3) Q) ∧ (¬ f_155 (v3 22 10) v3 = 44 → Q ((h + 1 : Nat) : Int) v3) := by
      intro v3 g4
      rw [g4.1.kind]
      refine ⟨fun k44 => ?_, fun k44 => ?_⟩
      · rw [if_pos k44] at h2
        have g5 := (g4.next (by omega) (by omega)).less (k' := k) (by omega)
        have hhi : h + 1 < i1 + 1 := by
          have := g2.2.2.2.2
          omega
        rcases bnd_some h2 with ⟨j, h3, rfl⟩ | ⟨r2, i2, s2, h3, h4⟩
        · exact h17 x (i1 + 1) s1 nb _ h3 (d' + 2) v0 _ Q i0 k (h + 1) cal w _ _ _ (by unfold dN at *; omega) g5 hcal hhi hq
        · have h4 : okP (.sub e r2) i2 s2 = some r := h4
          cases h4
          refine h17 x (i1 + 1) s1 nb _ h3 (d' + 2) v0 _ Q i0 k (h + 1) cal w _ _ _ (by unfold dN at *; omega) g5 hcal hhi ?_
          intro v6 g6 hs6 hc6
          dsimp only at g6 hs6 hc6
          have e6 : h + 1 + argc r2 = h + argc (.sub e r2) := by show _ = h + (argc r2 + 1); omega
          rw [e6] at hc6 ⊢
          refine hq v6 (g6.eq (fun _ => ?_) (fun _ => ?_) (fun _ => ?_)) (by dsimp only; omega) hc6
          · show _ = a ++ (coE u n G L e ((v0 8 3).toNat + a.length) ++ coE u n G L r2 ((v0 8 3).toNat + a.length + (coE u n G L e ((v0 8 3).toNat + a.length)).length))
            simp only [List.append_assoc, List.length_append, Nat.add_assoc]
          · show _ = nf ++ (nfE u n G L e ++ nfE u n G L r2)
            simp only [List.append_assoc]
          · show _ = tf ++ (tfE u n G L [] e ++ (_ ++ tfE u n G L ((fnP G w).drop h).tail r2))
            rw [List.tail_drop]
            simp only [List.append_assoc]
            rfl
      · rw [if_neg k44] at h2
        have h2 : okP (.sub e .null) i1 s1 = some r := h2
        cases h2
        refine hq v3 (g4.eq (fun _ => ?_) (fun _ => ?_) (fun _ => ?_)) hs1 (show h + (0 + 1) ≤ 3001 by omega)
        · show _ = a ++ (coE u n G L e ((v0 8 3).toNat + a.length) ++ [])
          rw [List.append_nil]
        · show _ = nf ++ (nfE u n G L e ++ [])
          rw [List.append_nil]
        · show _ = tf ++ (tfE u n G L [] e ++ (_ ++ []))
          rw [List.append_nil]
          rfl
    refine ⟨fun c => p26 (fun y hy26 => go _ ?_), fun c => go _ ?_⟩
    · refine (g3.want y ty ((ps u n i : Nat) : Int)).eq (fun _ => rfl) (fun _ => rfl) (fun hs => ?_)
      have hF := (g3.1.2.2.2.2.2 hs).1
      rw [hcal hs] at c hy26
      rcases hF.ct w with ⟨e1, e2, -⟩ | ⟨e1, e2, e3, j, e4, e5, e6⟩
      · rw [e2] at c
        exact absurd c (by omega)
      · rw [e2] at c
        have hl : h < (fnP G w).length := by omega
        have hG := hF.2.1
        have e7 := hy26 j h e4 rfl (by rw [hF.1]; omega) (by omega) (by omega)
        have e8 := (hF.2.2 j e5).2.2.2.2 h (by rw [← e6]; exact hl)
        rw [← e6] at e8
        rw [List.drop_eq_getElem_cons hl, hy hs, ← hf, e7, e8, List.getD_eq_getElem?_getD, List.getElem?_eq_getElem hl, List.append_assoc]
        rfl
    · refine g3.eq (fun _ => rfl) (fun _ => rfl) (fun hs => ?_)
      have hF := (g3.1.2.2.2.2.2 hs).1
      rw [hcal hs] at c
      have : (fnP G w).drop h = [] := by
        rcases hF.ct w with ⟨e1, e2, e3⟩ | ⟨e1, e2, e3, -⟩
        · rw [e3]; exact List.drop_nil
        · rw [e2] at c
          exact List.drop_eq_nil_of_le (by omega)
      rw [this, List.append_nil]
