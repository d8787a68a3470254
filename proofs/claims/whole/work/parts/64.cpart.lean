/-! The class's walk over an E: FRONT and PART. -/
theorem KF_step {s t : Int} {u : Nat → Int} {n la : Nat} {G : Fn} {L : Sc} {f : Nat} (hF : KF s t u n la G L f) (hP : KP s t u n la G L f) : KF s t u n la G L (f + 1) := by
  intro x i sg nb r hp d v Q hd hg hr hq
  obtain ⟨d', rfl⟩ : ∃ d', d = d' + 2 := ⟨d - 2, by unfold dN at hd; omega⟩
  have hd20 : 20 ≤ d' := by unfold dN at hd; omega
  rw [PE_5] at hp
  have key : (kd u n i = 45 ∨ kd u n i = 33) → ∀ w : Int, w = (if kd u n i = 45 then 15 else 16) → (0 ≤ w ∧ w < 128) → RR t (d' + 1) 105 [(2, 22)] (m_122 (m_119 v)) (fun x2 v2 => Q 0 (m_10 w 0 0 (m_126 0 x2 (f_156 (m_122 (m_119 v) 22 10) (m_122 (m_119 v))) v2))) := by
    intro hk w hw hw2
    rw [if_pos hk] at hp
    rcases (GO.start hg hr).sign with ⟨hs, g⟩ | ⟨hs, g⟩
    · rw [if_neg (by omega)] at hp
      have g1 := g.next (by omega) (by omega)
      rw [g1.1.place]
      rcases bnd_some hp with ⟨j, h1, rfl⟩ | ⟨y, i1, s1, h1, h2⟩
      · refine hF x (i + 1) (sg + 1) nb _ h1 (d' + 1) _ _ (by unfold dN at *; omega) g1.1 (fun hs => by have := (g1.room hs).1; omega) ?_
        exact fun z v' hx => hq _ _ (((hx.of g1.2.1).want _ _ _).act _ _ _)
      · refine hF x (i + 1) (sg + 1) nb _ h1 (d' + 1) _ _ (by unfold dN at *; omega) g1.1 (fun hs => by have := (g1.room hs).1; omega) ?_
        intro ty v' g2 hy hf hs1
        dsimp only at g2 hy hf hs1
        have h2 : okP (.mul (.arg i) y) i1 s1 = some r := h2
        cases h2
        have h3 := (g1.sub g2).want 0 ty ((ps u n (i + 1) : Nat) : Int)
        obtain ⟨h4, -, -⟩ := GO.act (k := 0) h3 w 0 0 hw2
        refine hq _ _ (h4.eq (fun hs => ?_) (fun hs => ?_) (fun hs => ?_)) (fun _ => rfl) rfl (by dsimp only; omega)
        · rw [hw]; rfl
        · rfl
        · show _ = tfE u n G L [] y ++ wt 0 (tyE u n G L y) (fstT u n y)
          rw [hy hs, hf]; rfl
    · rw [if_pos hs] at hp
      have hp : erP i = some r := hp
      cases hp
      obtain ⟨d2, rfl⟩ : ∃ d2, d' = d2 + 3 := ⟨d' - 3, by omega⟩
      refine cf_front (d := d2) g.next.1 ?_
      rw [g.next.1.refuse_id]
      exact hq _ _ ((g.next.want _ _ _).act _ _ _)
  refine s_105 (d := d') ?_
  rw [hg.kind]
  refine ⟨fun c => ?_, fun c => ⟨fun c2 => ?_, fun c2 => ?_⟩⟩
  · exact RR.imp (key (Or.inl c) 15 (by rw [if_pos c]) (by omega)) (fun _ _ h => ⟨fun _ => h, fun c' => absurd c c'⟩)
  · exact RR.imp (key (Or.inr c2) 16 (by rw [if_neg c]) (by omega)) (fun _ _ h => ⟨fun c' => absurd c' c, fun _ => h⟩)
  · rw [if_neg (fun h => by rcases h with h | h <;> contradiction)] at hp
    exact RR.imp (hP x i sg nb r hp (d' + 1) v Q (by unfold dN at *; omega) hg hr hq) (fun _ _ h => h)
theorem cx_parts {t : Int} {v0 v : Mem} {u : Nat → Int} {n la j d : Nat} {Q : Int → Mem → Prop} {b y c : Int} (h : CXf v0 v u n la j) (hq : Q y v) : LL t (d + 2) 106 12 [(2, 22), (0, b), (0, y), (0, c)] [] v Q := by
  refine s_106_12 (d := d) ⟨fun _ => hq, fun _ => ?_⟩
  rw [h.1.kind]
  exact ⟨fun c => absurd c (by decide), fun _ => hq⟩
theorem KP_step {s t : Int} {u : Nat → Int} {n la : Nat} {G : Fn} {L : Sc} {f : Nat} (hA : KA s t u n la G L f) (hQ : KQ s t u n la G L f) : KP s t u n la G L (f + 1) := by
  intro x i sg nb r hp d v Q hd hg hr hq
  obtain ⟨d', rfl⟩ : ∃ d', d = d' + 2 := ⟨d - 2, by unfold dN at hd; omega⟩
  rw [PE_6] at hp
  refine s_106 (d := d') ?_
  rw [hg.place]
  rcases bnd_some hp with ⟨j, h1, rfl⟩ | ⟨e, i1, s1, h1, h2⟩
  · refine hA x i sg nb _ h1 (d' + 1) v _ (by unfold dN at *; omega) hg hr ?_
    exact fun y v' hx => cx_parts hx (hq _ _ hx)
  · refine hA x i sg nb _ h1 (d' + 1) v _ (by unfold dN at *; omega) hg hr ?_
    intro y v' g hy hf hs1
    dsimp only at g hy hf hs1
    exact hQ e i1 s1 nb r h2 (d' + 2) v v' Q i sg 0 y (by unfold dN at *; omega) g hy hf hs1 (by omega) hq
/-- behind a fault a bracket ends at once -/
theorem cx_bracket {t : Int} {v0 v : Mem} {u : Nat → Int} {n la j d : Nat} {Q : Int → Mem → Prop} (h : CXf v0 v u n la j) (hd : 13 ≤ d) (hq : ∀ v', CXf v0 v' u n la j → Q 0 v') : RR t d 107 [(2, 22)] v Q := by
  obtain ⟨d', rfl⟩ : ∃ d', d = d' + 2 := ⟨d - 2, by omega⟩
  refine s_107 ((h.opn 91).rowOf (by omega) (fun v1 h1 => ?_))
  rw [h1.1.kind]
  exact ⟨fun c => absurd c (by decide), fun _ => hq _ ((h1.shut 93).act _ _ _)⟩
theorem KQ_step {s t : Int} {u : Nat → Int} {n la : Nat} {G : Fn} {L : Sc} {f : Nat} (hE : KE s t u n la G L f) (hQ : KQ s t u n la G L f) : KQ s t u n la G L (f + 1) := by
  intro x i sg nb r hp d v0 v Q i0 sg0 c ty hd h hty hf hs0 hc hq
  obtain ⟨d', rfl⟩ : ∃ d', d = d' + 2 := ⟨d - 2, by unfold dN at hd; omega⟩
  have hd20 : 20 ≤ d' := by unfold dN at hd; omega
  have hsg := h.1.2.1.2
  have hnb := h.1.2.2.1.2
  rw [PE_16] at hp
  refine s_106_12 (d := d') ⟨fun q => absurd q (by omega), fun _ => ?_⟩
  rw [h.1.kind]
  refine ⟨fun hk => ?_, fun hk => ?_⟩
  · rw [if_pos hk] at hp
    rw [wS (k := c) (m := 41) (by omega) (by decide)]
    rcases h.sign with ⟨hs, g⟩ | ⟨hs, g⟩
    · rw [if_neg (by omega)] at hp
      have g1 := g.want 1 ty (ps u n i0 : Int)
      obtain ⟨d2, rfl⟩ : ∃ d2, d' = d2 + 1 := ⟨d' - 1, by omega⟩
      refine s_107 (d := d2) ?_
      rcases g1.opn (c := 91) (by omega) with ⟨-, h8, g2⟩ | ⟨h8, g2⟩
      · rw [if_neg (by omega)] at hp
        rcases bnd_some hp with ⟨j, h1, rfl⟩ | ⟨a, i1, s1, h1, h2⟩
        · refine rowOf_k hE h1 (by unfold dN at *; omega) g2 (fun j' v' e hx => ?_) (fun e i1 s1 v' e' => by cases e')
          cases e
          rw [hx.1.kind]
          exact ⟨fun q => absurd q (by decide), fun _ => cx_parts ((hx.shut 93).act _ _ _) (hq _ _ ((hx.shut 93).act _ _ _))⟩
        · refine rowOf_k hE h1 (by unfold dN at *; omega) g2 (fun j' v' e hx => by cases e) (fun e i1' s1' v3 e' g3 hs3 => ?_)
          cases e'
          rw [g3.1.kind]
          refine ⟨fun h58 => ?_, fun h58 => ?_⟩
          · rw [if_pos h58] at h2
            have g4 := g3.next (by omega) (by omega)
            rcases bnd_some h2 with ⟨j, h3, rfl⟩ | ⟨b, i2, s2, h3, h4⟩
            · refine rowOf_k hE h3 (by unfold dN at *; omega) g4 (fun j' v' e hx => ?_) (fun e i1 s1 v' e' => by cases e')
              cases e
              exact cx_parts ((hx.shut 93).act _ _ _) (hq _ _ ((hx.shut 93).act _ _ _))
            · refine rowOf_k hE h3 (by unfold dN at *; omega) g4 (fun j' v' e hx => by cases e) (fun e i2' s2' v5 e' g5 hs5 => ?_)
              cases e'
              rcases g5.shut (c := 93) (by omega) with ⟨k93, g6⟩ | ⟨k93, g6⟩
              · rw [if_pos k93] at h4
                obtain ⟨g7, -, -⟩ := g6.act 21 0 0 (by omega)
                refine hQ (.rem x (.sub a b)) (i2 + 1) s2 nb r h4 (d2 + 1 + 2) v0 _ Q i0 sg0 (c + 1) 1 (by unfold dN at *; omega) ((g7.less (Nat.zero_le _)).eq (fun hs => ?_) (fun hs => ?_) (fun hs => ?_)) (fun _ => rfl) hf (by omega) (by omega) hq
                · show _ = coE u n G L x (v0 8 3).toNat ++ ((coE u n G L a ((v0 8 3).toNat + (coE u n G L x (v0 8 3).toNat).length) ++ coE u n G L b ((v0 8 3).toNat + (coE u n G L x (v0 8 3).toNat).length + (coE u n G L a ((v0 8 3).toNat + (coE u n G L x (v0 8 3).toNat).length)).length)) ++ [(21, 0, 0)])
                  simp only [List.append_assoc, List.length_append, Nat.add_assoc]
                · show _ = nfE u n G L x ++ (nfE u n G L a ++ nfE u n G L b)
                  simp only [List.append_assoc]
                · show _ = tfE u n G L [] x ++ (wt 1 (tyE u n G L x) (fstT u n x) ++ (tfE u n G L [] a ++ (wt 0 (tyE u n G L a) (fstT u n a) ++ (tfE u n G L [] b ++ wt 0 (tyE u n G L b) (fstT u n b)))))
                  rw [hty hs, hf]
                  simp only [List.append_assoc]
              · rw [if_neg k93] at h4
                have h4 : erP i2 = some r := h4
                cases h4
                exact cx_parts (g6.act _ _ _) (hq _ _ (g6.act _ _ _))
          · rw [if_neg h58] at h2
            rcases g3.shut (c := 93) (by omega) with ⟨k93, g6⟩ | ⟨k93, g6⟩
            · rw [if_pos k93] at h2
              obtain ⟨g7, -, -⟩ := g6.act 20 0 0 (by omega)
              refine hQ (.div x a) (i1 + 1) s1 nb r h2 (d2 + 1 + 2) v0 _ Q i0 sg0 (c + 1) 0 (by unfold dN at *; omega) ((g7.less (Nat.zero_le _)).eq (fun hs => ?_) (fun hs => ?_) (fun hs => ?_)) (fun _ => rfl) hf (by omega) (by omega) hq
              · show _ = coE u n G L x (v0 8 3).toNat ++ (coE u n G L a ((v0 8 3).toNat + (coE u n G L x (v0 8 3).toNat).length) ++ [(20, 0, 0)])
                simp only [List.append_assoc]
              · rfl
              · show _ = tfE u n G L [] x ++ (wt 1 (tyE u n G L x) (fstT u n x) ++ (tfE u n G L [] a ++ wt 0 (tyE u n G L a) (fstT u n a)))
                rw [hty hs, hf]
                simp only [List.append_assoc]
            · rw [if_neg k93] at h2
              have h2 : erP i1 = some r := h2
              cases h2
              exact cx_parts (g6.act _ _ _) (hq _ _ (g6.act _ _ _))
      · have h8' : 8 ≤ nb := by
          rcases Nat.lt_or_ge nb 8 with h9 | h9
          · exact absurd ⟨hk, h9⟩ h8
          · exact h9
        rw [if_pos h8'] at hp
        have hp : erP i = some r := hp
        cases hp
        refine g2.rowOf (by omega) (fun v1 hx => ?_)
        rw [hx.1.kind]
        exact ⟨fun q => absurd q (by decide), fun _ => cx_parts ((hx.shut 93).act _ _ _) (hq _ _ ((hx.shut 93).act _ _ _))⟩
    · rw [if_pos hs] at hp
      have hp : erP i = some r := hp
      cases hp
      exact cx_bracket (g.want _ _ _) (by omega) (fun v' hx => cx_parts hx (hq _ _ hx))
  · rw [if_neg hk] at hp
    have hp : okP x i sg = some r := hp
    cases hp
    exact hq ty v h hty hf hs0
