/-! The class's walk over a FUNCTION, all of it. -/
abbrev FnT : Type := Nat × List (Nat × Int) × Int × Jvm.Term
def fnOf (u : Nat → Int) (n : Nat) (q : FnT) : Int × List Int × Int := (vl u n (q.1 + 1), q.2.1.map (fun p => p.2), q.2.2.1)
def nfF (u : Nat → Int) (n : Nat) (G : Fn) (fi : Nat) (q : FnT) : List Nat := (if fno G (vl u n (q.1 + 1)) = fi then [] else [ps u n (q.1 + 1)]) ++ (nfP u n [] q.2.1 ++ nfB u n G (scP u n q.2.1) q.2.2.2)
def tfF (u : Nat → Int) (n : Nat) (G : Fn) (q : FnT) : List Int := tfB u n G q.2.2.1 (scP u n q.2.1) q.2.2.2
def coF (u : Nat → Int) (n : Nat) (G : Fn) (q : FnT) (pc : Nat) : Ac := coK u n G (scP u n q.2.1) q.2.2.2 pc ++ finA q.2.2.1
def slF (u : Nat → Int) (n : Nat) (G : Fn) (q : FnT) : Nat := mxB u n G q.2.1.length (scP u n q.2.1) q.2.2.2
/-- between two FUNCTIONS -/
def PX (s : Int) (v : Mem) (u : Nat → Int) (n la i st : Nat) (Gc : Fn) : Prop := CN v u n la i ∧ (v 22 4 = s ∧ v 8 4 = s ∧ (s = 0 ∨ s = 1)) ∧ ((∃ c : Nat, v 28 2 = c ∧ c ≤ 30) ∧ ∃ c : Nat, v 8 3 = c ∧ c ≤ 3100) ∧ (v 22 12 = st ∧ st ≤ 300) ∧ v 22 13 = 0 ∧ FNS v Gc
theorem GP.px {s : Int} {v0 v : Mem} {u : Nat → Int} {n la i0 i st sc fi k : Nat} {G : Fn} {L : Sc} {Gc : Fn} {a : Ac} {nf : List Nat} {tf : List Int} {mx : Nat} (h : GP s v0 v u n la i0 i st sc fi k G L Gc a nf tf mx) : PX s v u n la i st Gc := ⟨h.1.1.1, h.1.1.2.1, ⟨h.1.1.2.2.1.2.1, h.1.1.2.2.1.2.2⟩, h.1.2.1, h.1.2.2.1.1, h.2.2.1⟩
/-- behind a fault: the NAME, PARAMETERS -/
theorem cx_par {t : Int} {fi d : Nat} {v0 v : Mem} {u : Nat → Int} {n la j : Nat} {Q : Int → Mem → Prop} {a : Int} (h : CXp fi v0 v u n la j) (h0 : ∃ c : Nat, v0 28 2 = c ∧ c ≤ 30) (hq : ∀ v', CXp fi v0 v' u n la j → Q 0 v') : RR t (d + 3) 88 [(2, 22), (0, a)] v Q := by
  obtain ⟨c, hc, hc2⟩ := h.2.2.2.2.2.1 h0
  refine s_88 (d := d) ⟨fun _ => sfind_rr hc hc2 ⟨fun _ => ⟨fun _ => ?_, fun _ => ?_⟩, fun _ => ⟨fun _ => ?_, fun _ => ?_⟩⟩, fun _ => ?_⟩
  · exact ((h.expect 2).expect 58).type.p20 (fun v' h' => hq _ (h'.add _ _))
  · exact hq _ (((h.expect 2).expect 58).type.add _ _)
  · exact (((h.fnm _).expect 2).expect 58).type.p20 (fun v' h' => hq _ (h'.add _ _))
  · exact hq _ ((((h.fnm _).expect 2).expect 58).type.add _ _)
  · rw [h.1.refuse_id]; exact hq _ h
theorem cx_pars {t : Int} {fi d : Nat} {v0 v : Mem} {u : Nat → Int} {n la j : Nat} {Q : Int → Mem → Prop} (h : CXp fi v0 v u n la j) (h0 : ∃ c : Nat, v0 28 2 = c ∧ c ≤ 30) (hq : ∀ v', CXp fi v0 v' u n la j → Q 0 v') : RR t (d + 4) 87 [(2, 22)] v Q := by
  refine w_87 (s_87_2 (d := d + 2) ⟨fun _ => hq _ h, fun _ => cx_par h h0 (fun v' h' => ?_)⟩)
  rw [h'.1.kind]
  exact ⟨fun c => absurd c (by decide), fun _ => hq _ h'⟩
/-- behind a fault: from the ( on -/
theorem cx_rest {t : Int} {fi d : Nat} {v0 v : Mem} {u : Nat → Int} {n la j : Nat} {Q : Int → Mem → Prop} (h : CXp fi v0 v u n la j) (h0 : ∃ c : Nat, v0 28 2 = c ∧ c ≤ 30) (hq : ∀ v', CXp fi v0 v' u n la j → Q 0 v') : ((f_155 (m_123 40 v 22 10) (m_123 40 v) = 41 → LL t (d + 5) 85 52 [(2, 22), (0, (fi : Int)), (3, 0)] [] (m_123 40 v) Q) ∧ (¬ f_155 (m_123 40 v 22 10) (m_123 40 v) = 41 → (RR t (d + 4) 87 [(2, 22)] (m_123 40 v) (fun x4 v4 => LL t (d + 5) 85 52 [(2, 22), (0, (fi : Int)), (3, 0)] [] v4 Q)))) := by
  rw [(h.expect 40).1.kind]
  exact ⟨fun c => absurd c (by decide), fun _ => cx_pars (h.expect 40) h0 (fun v' h' => cx_tail (d := d + 2) h' h0 hq)⟩
theorem fun_k {s t : Int} {u : Nat → Int} {n la i st fi d F : Nat} {v : Mem} {G G0 : Fn} {Q : Int → Mem → Prop} {r : Except Nat (List (Nat × Int) × Int × Jvm.Term × Nat × Nat)} (hp : PFn (kd u n) F i fi st = some r) (hd : dB 0 + 6 ≤ d) (h : PX s v u n la i st (if s = 0 then G0 else G)) (hl : s = 0 → G0.length = fi) (hr : s = 1 → v 8 3 ≤ (ps u n i : Int)) (hf20 : fi ≤ 20)
    (hG : s = 1 → ∀ q, r = .ok q → fi < G.length ∧ G.getD fi (0, [], 0) = fnOf u n (i, q.1, q.2.1, q.2.2.1))
    (hq : match r with
      | .error e => ∀ v', CXp fi v v' u n la e → Q 0 v'
      | .ok q => ∀ v', PX s v' u n la q.2.2.2.1 q.2.2.2.2 (gcS s G0 G (fnOf u n (i, q.1, q.2.1, q.2.2.1))) → FrP fi v v' → OW s v v' (coF u n G (i, q.1, q.2.1, q.2.2.1) (v 8 3).toNat) (nfF u n G fi (i, q.1, q.2.1, q.2.2.1)) (tfF u n G (i, q.1, q.2.1, q.2.2.1)) → (s = 1 → v' 8 3 + (ps u n i : Int) ≤ v 8 3 + (ps u n q.2.2.2.1 : Int)) → (s = 1 → v' 6 fi = ((v 8 3).toNat : Int) ∧ v' 7 fi = ((slF u n G (i, q.1, q.2.1, q.2.2.1) : Nat) : Int)) → Q 0 v') : RR t d 85 [(2, 22), (0, (fi : Int))] v Q := by
  obtain ⟨d', rfl⟩ : ∃ d', d = d' + 5 := ⟨d - 5, by omega⟩
  obtain ⟨p1, p2, p3, p4, p5, p6⟩ := h
  have h0 := p3.1
  have hp : (if kd u n i = 15 ∧ fi < 20 then (if kd u n (i + 1) = 2 then (if kd u n (i + 2) = 40 then (match (if kd u n (i + 3) = 41 then some (.ok ([], i + 3)) else PPar (kd u n) 8 (i + 3) 0) with
    | none => none
    | some (.error e) => some (.error e)
    | some (.ok q) => match PTl (kd u n) F q.2 st q.1.length with
      | none => none
      | some (.error e) => some (.error e)
      | some (.ok b) => some (.ok (q.1, b))) else some (.error (i + 2))) else some (.error (i + 1))) else some (.error i)) = some r := hp
  refine s_85 (d := d' + 3) ⟨fun c20 => ?_, fun c20 => ?_⟩
  · -- the state as the FUNCTION begins
    have ec : ∀ c, c ≠ 22 → c ≠ 28 → up (up (up v 22 11 (fi : Int)) 28 2 0) 28 3 0 c = v c := fun c h1 h2 => by rw [up_ne h2, up_ne h2, up_ne h1]
    have e22 : ∀ k, k ≠ 11 → up (up (up v 22 11 (fi : Int)) 28 2 0) 28 3 0 22 k = v 22 k := fun k hk => by rw [up_ne (by decide), up_ne (by decide), up_nk hk]
    have hF1 : ∀ {Gx}, FNS v Gx → FNS (up (up (up v 22 11 (fi : Int)) 28 2 0) 28 3 0) Gx := fun hx => hx.tab5 (fun c c1 c2 => ec c (by omega) (by omega))
    have g0 : GP s v (up (up (up v 22 11 (fi : Int)) 28 2 0) 28 3 0) u n la i i st 0 fi 0 G [] (if s = 0 then G0 else G) [] [] [] 0 := by
      refine ⟨⟨⟨⟨p1.1.keep (fun c hc => ec c (by omega) (by omega)) (e22 5 (by decide)), by rw [e22 6 (by decide)]; exact p1.2.1, by rw [e22 10 (by decide)]; exact p1.2.2.1, p1.2.2.2⟩, ⟨by rw [e22 4 (by decide)]; exact p2.1, by rw [ec 8 (by decide) (by decide)]; exact p2.2.1, p2.2.2⟩, ⟨?_, ⟨0, rfl, by omega⟩, by rw [ec 8 (by decide) (by decide)]; exact p3.2⟩, fun hs => ⟨?_, rfl, by show 0 ≤ 30; omega, fun k hk => absurd hk (Nat.not_lt_zero _)⟩⟩, ⟨by rw [e22 12 (by decide)]; exact p4.1, p4.2⟩, ⟨by rw [e22 13 (by decide)]; exact p5, by omega⟩, rfl, by omega⟩, ?_, hF1 p6, ?_, ?_, fun hs => ⟨hr hs, by rw [ec 8 (by decide) (by decide)]; omega⟩, Nat.le_refl _, fun _ => rfl⟩
      · rw [ec 1 (by decide) (by decide)]
        exact ⟨_, p6.1, p6.2.1⟩
      · rw [if_neg (by omega)] at p6
        exact hF1 p6
      · rw [up_ne (by decide), up_ne (by decide), up_k]
      · exact ⟨fun c _ h2 h3 => ec c h2 (by omega), fun k hk => e22 k (by omega), by rw [ec 8 (by decide) (by decide)], fun q => by rw [ec 8 (by decide) (by decide)]; exact q, fun _ => ⟨0, rfl, by omega⟩, fun q => by rw [ec 1 (by decide) (by decide)]; exact q, fun c k hc _ => by rw [ec c (by omega) (by omega)]⟩
      · exact OW.nil (fun c c1 c2 => ec c (by omega) (by omega)) (e22 8 (by decide)) (e22 9 (by decide)) (fun _ => by obtain ⟨c, hc, _⟩ := p3.2; exact ⟨c, hc⟩)
    rcases g0.expect (c := 15) (by omega) with ⟨k15, g1⟩ | ⟨k15, g1⟩
    · rw [if_pos ⟨k15, by omega⟩] at hp
      refine name_k (d := d' + 2) g1 hl (by omega) (fun k2 v2 g2 => ?_) (fun k2 v2 hx => ?_)
      · rw [if_pos k2] at hp
        rcases g2.expect (c := 40) (by omega) with ⟨k40, g3⟩ | ⟨k40, g3⟩
        · rw [if_pos k40] at hp
          have hk3 : f_155 (m_123 40 v2 22 10) (m_123 40 v2) = kd u n (i + 3) := g3.1.1.1.kind
          rw [hk3]
          -- from the ) on
          have go : ∀ (pl : List (Nat × Int)) (j : Nat) (w : Mem), (match PTl (kd u n) F j st pl.length with
              | none => none
              | some (.error e) => some (.error e)
              | some (.ok b) => some (.ok (pl, b))) = some r → GP s v w u n la i j st pl.length fi 3 G (scP u n pl) (gcS s G0 G (vl u n (i + 1), pl.map (fun p => p.2), 0)) [] ((if fno G (vl u n (i + 1)) = fi then [] else [ps u n (i + 1)]) ++ nfP u n [] pl) [] pl.length → LL t (d' + 5) 85 52 [(2, 22), (0, (fi : Int)), (3, 0)] [] w Q := by
            intro pl j w hr2 gw
            cases hr3 : PTl (kd u n) F j st pl.length with
            | none => rw [hr3] at hr2; cases hr2
            | some rt =>
              rw [hr3] at hr2
              refine tail_p (d := d' + 2) hr3 (by omega) gw hl (by omega) h0 (fun hs ty b i' st' e => ?_) ?_
              · subst e
                cases hr2
                have := hG hs _ rfl
                exact ⟨this.1, by rw [this.2]; rfl⟩
              · match rt, hr2 with
                | .error e, hr2 =>
                  cases hr2
                  exact hq
                | .ok q, hr2 =>
                  cases hr2
                  intro v6 g6 h6
                  refine hq v6 g6.px g6.2.2.2.1 (g6.2.2.2.2.1.eq (fun _ => rfl) (fun _ => ?_) (fun _ => rfl)) (fun hs => by have := (g6.2.2.2.2.2.1 hs).2; dsimp only; omega) h6
                  rw [List.append_assoc]
                  rfl
          refine ⟨fun k41 => ?_, fun k41 => ?_⟩
          · rw [if_pos k41] at hp
            refine go [] (i + 3) _ hp (g3.eq (fun _ => rfl) (fun _ => ?_) (fun _ => rfl) (fun _ => rfl))
            rw [List.nil_append]
            exact (List.append_nil _).symm
          · rw [if_neg k41] at hp
            cases hr2 : PPar (kd u n) 8 (i + 3) 0 with
            | none => rw [hr2] at hp; cases hp
            | some rp =>
              rw [hr2] at hp
              refine w_87 (pars_k (d := d') hl 8 (i + 3) 0 rp _ [] [] _ 0 hr2 (g3.less (k' := 3) (by omega)) rfl rfl (by omega) (fun _ => rfl) ?_)
              match rp, hp with
              | .error e, hp =>
                cases hp
                intro v' hx
                exact cx_tail (d := d' + 2) hx h0 hq
              | .ok q, hp =>
                intro v' g4
                have e0 : 0 + q.1.length = q.1.length := Nat.zero_add _
                rw [e0] at g4
                exact go q.1 q.2 v' hp (g4.eq (fun _ => rfl) (fun _ => rfl) (fun _ => rfl) (fun _ => rfl))
        · rw [if_neg k40] at hp
          cases hp
          rw [g3.1.kind]
          exact ⟨fun c => absurd c (by decide), fun _ => cx_pars g3 h0 (fun v' h' => cx_tail (d := d' + 2) h' h0 hq)⟩
      · rw [if_neg k2] at hp
        cases hp
        exact cx_rest (d := d') hx h0 hq
    · rw [if_neg (fun q => k15 q.1)] at hp
      cases hp
      have hF2 : FNS (m_123 15 (up (up (up v 22 11 (fi : Int)) 28 2 0) 28 3 0)) (if s = 0 then G0 else G) := (hF1 p6).frs (FrS.of FrE.expect)
      refine s_86 (d := d' + 2) ⟨fun c => ?_, fun c => ?_⟩
      · have hs : s = 0 := by
          rw [g1.2.2.1 4 (by omega), p2.1] at c
          exact c
        have hl := hl hs
        rw [if_pos hs] at hF2
        obtain ⟨n1, n2, n3⟩ := hF2.new (by omega) (f_157 (m_123 15 (up (up (up v 22 11 (fi : Int)) 28 2 0) 28 3 0) 22 10) (m_123 15 (up (up (up v 22 11 (fi : Int)) 28 2 0) 28 3 0)))
        rw [hl] at n3
        exact cx_rest (d := d') ((g1.tab n2 (fun _ => ⟨_, n1.1, n1.2.1⟩) n3).expect 2) h0 hq
      · refine ffind_rr hF2.1 hF2.2.1 ⟨fun _ => ?_, fun _ => ?_⟩
        · exact cx_rest (d := d') (g1.expect 2) h0 hq
        · exact cx_rest (d := d') ((g1.fnm _).expect 2) h0 hq
  · rw [if_neg (fun q => c20 (by omega))] at hp
    cases hp
    exact hq _ ⟨p1.refuse_st, FrP.of (FrS.of FrE.refuse)⟩
