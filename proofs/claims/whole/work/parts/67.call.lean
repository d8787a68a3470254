/-! The class's walk over an E: a call, ATOM, and all together. -/
theorem mn_one (p : Nat) : ∀ (l : List Nat) (x : Int), mn x (l ++ [p]) = mn x (p :: l) := by
  intro l
  induction l with
  | nil => intro x; rfl
  | cons q l ih =>
    intro x
    show mn (if x = -1 then (q : Int) else if (q : Int) < x then (q : Int) else x) (l ++ [p]) = mn (if (if x = -1 then (p : Int) else if (p : Int) < x then (p : Int) else x) = -1 then (q : Int) else if (q : Int) < (if x = -1 then (p : Int) else if (p : Int) < x then (p : Int) else x) then (q : Int) else (if x = -1 then (p : Int) else if (p : Int) < x then (p : Int) else x)) l
    rw [ih]
    show mn (if (if x = -1 then (q : Int) else if (q : Int) < x then (q : Int) else x) = -1 then (p : Int) else if (p : Int) < (if x = -1 then (q : Int) else if (q : Int) < x then (q : Int) else x) then (p : Int) else (if x = -1 then (q : Int) else if (q : Int) < x then (q : Int) else x)) l = _
    congr 1
    split <;> split <;> split <;> omega
theorem OW.last {s : Int} {v v' : Mem} {a : Ac} {p : Nat} {nf : List Nat} {tf : List Int} (h : OW s v v' a (nf ++ [p]) tf) : OW s v v' a (p :: nf) tf := by
  refine ⟨h.1, fun hs => ?_⟩
  have := h.2 hs
  rw [mn_one] at this
  exact this
theorem GO.last {s : Int} {v0 v : Mem} {u : Nat → Int} {n la i0 i sg nb k : Nat} {G : Fn} {L : Sc} {a : Ac} {p : Nat} {nf : List Nat} {tf : List Int} (h : GO s v0 v u n la i0 i sg nb k G L a (nf ++ [p]) tf) : GO s v0 v u n la i0 i sg nb k G L a (p :: nf) tf := ⟨h.1, h.2.1, h.2.2.1.last, h.2.2.2⟩
theorem call_k {s t : Int} {u : Nat → Int} {n la : Nat} {G : Fn} {L : Sc} {f : Nat} (h17 : K17 s t u n la G L f) {x : Jvm.Term} {i sg nb d : Nat} {v : Mem} {Q : Int → Mem → Prop} {r : Except Nat (Jvm.Term × Nat × Nat)} (hp : PE (kd u n) (f + 1) 7 x i sg nb = some r) (hd : dN nb sg 3 ≤ d) (hg : CG s v u n la i sg nb G L) (hr : s = 1 → v 8 3 ≤ (ps u n i : Int)) (hk : kd u n i = 2) (hk40 : kd u n (i + 1) = 40) (hq : PoC s Q v u n la nb sg i G L r) : RR t d 115 [(2, 22)] v Q := by
  obtain ⟨d', rfl⟩ : ∃ d', d = d' + 2 := ⟨d - 2, by unfold dN at hd; omega⟩
  have hd20 : 20 ≤ d' := by unfold dN at hd; omega
  have hi := hg.1.lt (by omega)
  have hv := hg.1.value hi
  rw [PE_7, if_neg (by omega), if_pos hk, if_pos hk40] at hp
  refine s_115 (d := d') ?_
  rw [hv]
  refine hg.fnd (fun y hy hy2 => ?_)
  rw [hg.place]
  -- behind a fault
  have bad : ∀ j, r = .error j → ∀ z, ∀ v', CXf v v' u n la j → ((y = (-1) → Q (f_27 y (m_10 5 y 0 (m_125 ((ps u n i : Nat) : Int) (m_118 41 v')))) (m_10 5 y 0 (m_125 ((ps u n i : Nat) : Int) (m_118 41 v')))) ∧ (¬ y = (-1) → (((f_25 y (m_118 41 v')) = z → Q (f_27 y (m_10 5 y 0 (m_118 41 v'))) (m_10 5 y 0 (m_118 41 v'))) ∧ (¬ (f_25 y (m_118 41 v')) = z → Q (f_27 y (m_10 5 y 0 (m_125 ((ps u n i : Nat) : Int) (m_118 41 v')))) (m_10 5 y 0 (m_125 ((ps u n i : Nat) : Int) (m_118 41 v'))))))) := by
    intro j e z v' hx
    subst e
    exact ⟨fun _ => hq _ _ (((hx.shut 41).fnm _).act _ _ _), fun _ => ⟨fun _ => hq _ _ ((hx.shut 41).act _ _ _), fun _ => hq _ _ (((hx.shut 41).fnm _).act _ _ _)⟩⟩
  have badh : ∀ j, r = .error j → ∀ v', CXf v v' u n la j → RR t (d' + 1) 116 [(2, 22), (0, y)] v' (fun x5 v5 => ((y = (-1) → Q (f_27 y (m_10 5 y 0 (m_125 ((ps u n i : Nat) : Int) (m_118 41 v5)))) (m_10 5 y 0 (m_125 ((ps u n i : Nat) : Int) (m_118 41 v5)))) ∧ (¬ y = (-1) → (((f_25 y (m_118 41 v5)) = x5 → Q (f_27 y (m_10 5 y 0 (m_118 41 v5))) (m_10 5 y 0 (m_118 41 v5))) ∧ (¬ (f_25 y (m_118 41 v5)) = x5 → Q (f_27 y (m_10 5 y 0 (m_125 ((ps u n i : Nat) : Int) (m_118 41 v5)))) (m_10 5 y 0 (m_125 ((ps u n i : Nat) : Int) (m_118 41 v5)))))))) := by
    intro j e v' hx
    exact w_116 (cx_hand (h := 0) (h' := 0) hx (by omega) (by omega) (fun z v5 h5 => bad j e z v5 h5))
  -- behind the )
  have good : ∀ (as : Jvm.Term) (i1 s1 : Nat) (v5 : Mem), r = .ok (.op2 .ixor (.arg i) as, i1 + 1, s1) → kd u n i1 = 41 → sg ≤ s1 → GO s v v5 u n la i i1 s1 (nb + 1) 0 G L (coE u n G L as (v 8 3).toNat) (nfE u n G L as) (tfE u n G L (fnP G (vl u n i)) as) → ((y = (-1) → Q (f_27 y (m_10 5 y 0 (m_125 ((ps u n i : Nat) : Int) (m_118 41 v5)))) (m_10 5 y 0 (m_125 ((ps u n i : Nat) : Int) (m_118 41 v5)))) ∧ (¬ y = (-1) → (((f_25 y (m_118 41 v5)) = ((argc as : Nat) : Int) → Q (f_27 y (m_10 5 y 0 (m_118 41 v5))) (m_10 5 y 0 (m_118 41 v5))) ∧ (¬ (f_25 y (m_118 41 v5)) = ((argc as : Nat) : Int) → Q (f_27 y (m_10 5 y 0 (m_125 ((ps u n i : Nat) : Int) (m_118 41 v5)))) (m_10 5 y 0 (m_125 ((ps u n i : Nat) : Int) (m_118 41 v5))))))) := by
    intro as i1 s1 v5 e k41 hs1 g
    subst e
    rcases g.shut (c := 41) (by omega) with ⟨-, g1⟩ | ⟨k, -⟩
    · have nofault : (s = 1 → ¬ (fno G (vl u n i) = -1 ∨ ¬ (fnP G (vl u n i)).length = argc as)) → Q (f_27 y (m_10 5 y 0 (m_118 41 v5))) (m_10 5 y 0 (m_118 41 v5)) := by
        intro hn
        obtain ⟨g2, -, -⟩ := g1.act 5 y 0 (by omega)
        refine hq _ _ (g2.eq (fun hs => ?_) (fun hs => ?_) (fun hs => rfl)) (fun hs => ?_) rfl hs1
        · rw [hy hs]; rfl
        · show _ = (if fno G (vl u n i) = -1 ∨ ¬ (fnP G (vl u n i)).length = argc as then _ else _) ++ _
          rw [if_neg (hn hs)]; rfl
        · have ty := (g2.1.2.2.2.2.2 hs).1.ty (vl u n i)
          rw [← hy hs] at ty
          exact ty
      have fault : (s = 1 → (fno G (vl u n i) = -1 ∨ ¬ (fnP G (vl u n i)).length = argc as)) → Q (f_27 y (m_10 5 y 0 (m_125 ((ps u n i : Nat) : Int) (m_118 41 v5)))) (m_10 5 y 0 (m_125 ((ps u n i : Nat) : Int) (m_118 41 v5))) := by
        intro hn
        obtain ⟨g2, -, -⟩ := (g1.fnm (ps u n i)).act 5 y 0 (by omega)
        refine hq _ _ (g2.last.eq (fun hs => ?_) (fun hs => ?_) (fun hs => rfl)) (fun hs => ?_) rfl hs1
        · rw [hy hs]; rfl
        · show _ = (if fno G (vl u n i) = -1 ∨ ¬ (fnP G (vl u n i)).length = argc as then _ else _) ++ _
          rw [if_pos (hn hs)]; rfl
        · have ty := (g2.1.2.2.2.2.2 hs).1.ty (vl u n i)
          rw [← hy hs] at ty
          exact ty
      refine ⟨fun c => fault (fun hs => Or.inl (by rw [← hy hs]; exact c)), fun c => ⟨fun c2 => nofault (fun hs hn => ?_), fun c2 => fault (fun hs => ?_)⟩⟩
      · rw [hy hs] at c c2
        rcases ((g1.1.2.2.2.2.2 hs).1.ct (vl u n i)) with ⟨e1, -⟩ | ⟨e1, e2, -⟩
        · exact c e1
        · rw [e2] at c2
          rcases hn with hn | hn
          · exact c hn
          · exact hn (by omega)
      · rw [hy hs] at c c2
        rcases ((g1.1.2.2.2.2.2 hs).1.ct (vl u n i)) with ⟨e1, -⟩ | ⟨e1, e2, -⟩
        · exact Or.inl e1
        · rw [e2] at c2
          exact Or.inr (fun e => c2 (by rw [e]))
    · exact absurd k41 k
  rcases (GO.start hg hr).sign with ⟨hs, g⟩ | ⟨hs, g⟩
  · rw [if_neg (by omega)] at hp
    rcases (g.next (by omega) (by omega)).opn (c := 40) (by omega) with ⟨h40, h8, g1⟩ | ⟨h8, g1⟩
    · rw [if_neg (by omega)] at hp
      have g1 := g1.less (k' := 0) (by omega)
      rw [g1.1.kind]
      refine ⟨fun k41 => ?_, fun k41 => ?_⟩
      · rw [if_pos k41] at hp
        have hp : okP (.op2 .ixor (.arg i) .null) (i + 3) (sg + 1) = some r := hp
        exact good .null (i + 2) (sg + 1) _ (by cases hp; rfl) k41 (by omega) (g1.eq (fun _ => rfl) (fun _ => rfl) (fun _ => rfl))
      · rw [if_neg k41] at hp
        refine w_116 ?_
        rcases bnd_some hp with ⟨j, h1, e1⟩ | ⟨as, i1, s1, h1, h2⟩
        · exact h17 x (i + 2) (sg + 1) (nb + 1) _ h1 (d' + 1) v _ _ i 0 0 y (vl u n i) [] [] [] (by unfold dN at *; omega) g1 hy (by omega) (fun z v' hx => bad j e1 z v' hx)
        · refine h17 x (i + 2) (sg + 1) (nb + 1) _ h1 (d' + 1) v _ _ i 0 0 y (vl u n i) [] [] [] (by unfold dN at *; omega) g1 hy (by omega) ?_
          intro v5 g5 hs5 hc5
          dsimp only at g5 hs5 hc5
          have e0 : (0 + argc as : Nat) = argc as := Nat.zero_add _
          rw [e0]
          by_cases k5 : kd u n i1 = 41
          · rw [if_pos k5] at h2
            have h2 : okP (.op2 .ixor (.arg i) as) (i1 + 1) s1 = some r := h2
            exact good as i1 s1 v5 (by cases h2; rfl) k5 (by omega) (g5.eq (fun _ => rfl) (fun _ => rfl) (fun _ => rfl))
          · rw [if_neg k5] at h2
            have h2 : erP i1 = some r := h2
            have g6 : CXf v (m_118 41 v5) u n la i1 := by
              rcases g5.shut (c := 41) (by omega) with ⟨k, -⟩ | ⟨-, k⟩
              · exact absurd k k5
              · exact k
            cases h2
            exact ⟨fun _ => hq _ _ ((g6.fnm _).act _ _ _), fun _ => ⟨fun _ => hq _ _ (g6.act _ _ _), fun _ => hq _ _ ((g6.fnm _).act _ _ _)⟩⟩
    · have h8' : 8 ≤ nb := by
        rcases Nat.lt_or_ge nb 8 with h9 | h9
        · exact absurd ⟨hk40, h9⟩ h8
        · exact h9
      rw [if_pos h8'] at hp
      have hp : erP (i + 1) = some r := hp
      rw [g1.1.kind]
      exact ⟨fun c => absurd c (by decide), fun _ => badh (i + 1) (by cases hp; rfl) _ g1⟩
  · rw [if_pos hs] at hp
    have hp : erP i = some r := hp
    rw [(g.next.opn 40).1.kind]
    exact ⟨fun c => absurd c (by decide), fun _ => badh i (by cases hp; rfl) _ (g.next.opn 40)⟩
theorem KA_step {s t : Int} {u : Nat → Int} {n la : Nat} {G : Fn} {L : Sc} {f : Nat} (hE : KE s t u n la G L f) (h17 : K17 s t u n la G L f) : KA s t u n la G L (f + 1) := by
  intro x i sg nb r hp d v Q hd hg hr hq
  obtain ⟨d', rfl⟩ : ∃ d', d = d' + 2 := ⟨d - 2, by unfold dN at hd; omega⟩
  have hd20 : 20 ≤ d' := by unfold dN at hd; omega
  have hp0 := hp
  rw [PE_7] at hp
  refine s_108 (d := d') ?_
  rw [hg.kind]
  refine ⟨fun k2 => ?_, fun k2 => ⟨fun k3 => ?_, fun k3 => ⟨fun k4 => ?_, fun k4 => ⟨fun k11 => ?_, fun k11 => ⟨fun k14 => ?_, fun k14 => ⟨fun k18 => ?_, fun k18 => ⟨fun k23 => ?_, fun k23 => ⟨fun k40 => ?_, fun k40 => ?_⟩⟩⟩⟩⟩⟩⟩⟩
  · have hi := hg.1.lt (by omega)
    have hb := hg.bnd
    have e1 : f_155 (w32 ((v 22 10) + 1)) v = kd u n (i + 1) := by
      rw [hg.1.2.2.1, wS (k := i) (m := 3001) (by omega) (by decide)]
      exact hg.1.1.kind hi
    rw [e1]
    refine ⟨fun k40 => ?_, fun k40 => ?_⟩
    · exact RR.imp (call_k h17 hp0 (by unfold dN at *; omega) hg hr k2 k40 hq) (fun _ _ h => h)
    · rw [if_neg (by omega), if_pos k2, if_neg k40] at hp
      have hp : okP (.arg i) (i + 1) sg = some r := hp
      cases hp
      exact RR.imp (local_k hg hr k2 hq) (fun _ _ h => h)
  · rw [if_pos (Or.inl k3)] at hp
    have hp : okP (.arg i) (i + 1) sg = some r := hp
    cases hp
    have hi := hg.1.lt (by omega)
    rw [hg.1.value hi]
    have hv := vl_num hg.u k3
    rw [w32_id (by omega) (by omega)]
    have g1 := (GO.start hg hr).act0 7 (vl u n i) 0 (by omega) (by omega) (by omega)
    refine hq _ _ (g1.eq (fun hs => ?_) (fun hs => ?_) (fun hs => rfl)) (fun hs => ?_) rfl (Nat.le_refl _)
    · show _ = [if kd u n i = 3 then _ else _]
      rw [if_pos k3]; rfl
    · show _ = (if kd u n i = 2 ∧ _ then _ else _)
      rw [if_neg (fun e => k2 e.1)]
    · show _ = (if kd u n i = 3 then _ else _)
      rw [if_pos k3]
  · rw [if_pos (Or.inr k4)] at hp
    have hp : okP (.arg i) (i + 1) sg = some r := hp
    cases hp
    have hi := hg.1.lt (by omega)
    have hps := hg.psn i
    have hv := vl_quo hg.u k4
    have hb := hg.bnd
    rw [hg.1.value hi, hg.place, w32_id (a := vl u n i) (by omega) (by omega), wS (k := ps u n i) (m := 3001) (by omega) (by decide)]
    have g1 := (GO.start hg hr).act0 8 ((ps u n i + 1 : Nat) : Int) (vl u n i) (by omega) (by omega) (by omega)
    refine hq _ _ (g1.eq (fun hs => ?_) (fun hs => ?_) (fun hs => rfl)) (fun hs => ?_) rfl (Nat.le_refl _)
    · show _ = [if kd u n i = 3 then _ else if kd u n i = 4 then (8, (ps u n i : Int) + 1, vl u n i) else _]
      rw [if_neg k3, if_pos k4]; rfl
    · show _ = (if kd u n i = 2 ∧ _ then _ else _)
      rw [if_neg (fun e => k2 e.1)]
    · show _ = (if kd u n i = 3 then _ else if kd u n i = 4 then _ else _)
      rw [if_neg k3, if_pos k4]
  · exact RR.imp (ofOne_k hE hp0 (by unfold dN at *; omega) hg hr (Or.inr (Or.inl k11)) (by rw [k11]; rfl) (by rw [k11]; rfl) (by rw [k11]; rfl) hq) (fun _ _ h => h)
  · exact RR.imp (find_k hE hp0 (by unfold dN at *; omega) hg hr k14 hq) (fun _ _ h => h)
  · exact RR.imp (ofOne_k hE hp0 (by unfold dN at *; omega) hg hr (Or.inl k18) (by rw [k18]; rfl) (by rw [k18]; rfl) (by rw [k18]; rfl) hq) (fun _ _ h => h)
  · exact RR.imp (ofOne_k hE hp0 (by unfold dN at *; omega) hg hr (Or.inr (Or.inr k23)) (by rw [k23]; rfl) (by rw [k23]; rfl) (by rw [k23]; rfl) hq) (fun _ _ h => h)
  · exact RR.imp (group_k hE hp0 (by unfold dN at *; omega) hg hr k40 hq) (fun _ _ h => h)
  · rw [if_neg (by omega), if_neg k2, if_neg k40, if_neg (by omega), if_neg k14] at hp
    have hp : erP i = some r := hp
    cases hp
    exact hq _ _ ⟨hg.1.refuse_st, FrE.refuse⟩
/-- the class reads an E as the grammar says -/
theorem KE_all (s t : Int) (u : Nat → Int) (n la : Nat) (G : Fn) (L : Sc) : ∀ f, KE s t u n la G L f ∧ KF s t u n la G L f ∧ KP s t u n la G L f ∧ KA s t u n la G L f ∧ KL s t u n la G L f ∧ KQ s t u n la G L f ∧ K17 s t u n la G L f := by
  intro f
  induction f with
  | zero =>
    refine ⟨fun l x i sg nb r _ h => ?_, fun x i sg nb r h => ?_, fun x i sg nb r h => ?_, fun x i sg nb r h => ?_, fun l x i sg nb r _ h => ?_, fun x i sg nb r h => ?_, fun x i sg nb r h => ?_⟩ <;> cases h
  | succ f ih =>
    obtain ⟨h1, h2, h3, h4, h5, h6, h7⟩ := ih
    have hF := KF_step h2 h3
    exact ⟨KE_step h1 h5 hF, hF, KP_step h4 h6, KA_step h1 h7, KL_step h1 h5, KQ_step h1 h6, K17_step h1 h7⟩
