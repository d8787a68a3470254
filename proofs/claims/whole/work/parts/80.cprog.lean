/-! The class's two walks over a PROGRAM. -/
/-- what a walk leaves alone -/
def FrW (v v' : Mem) : Prop := (∀ c, (c < 1 ∨ 11 < c) → c ≠ 22 → (c < 28 ∨ 30 < c) → v' c = v c) ∧ (∀ k, (k < 6 ∨ k = 7 ∨ 15 < k) → v' 22 k = v 22 k) ∧ ((∃ c : Nat, v 28 2 = c ∧ c ≤ 30) → ∃ c : Nat, v' 28 2 = c ∧ c ≤ 30)
theorem FrW.refl (v : Mem) : FrW v v := ⟨fun _ _ _ _ => rfl, fun _ _ => rfl, fun h => h⟩
theorem FrW.trans {v v1 v2 : Mem} (h : FrW v v1) (h' : FrW v1 v2) : FrW v v2 := ⟨fun c a b e => (h'.1 c a b e).trans (h.1 c a b e), fun k hk => (h'.2.1 k hk).trans (h.2.1 k hk), fun q => h'.2.2 (h.2.2 q)⟩
theorem FrW.of {fi : Nat} {v v' : Mem} (h : FrP fi v v') : FrW v v' := ⟨h.1, h.2.1, h.2.2.2.2.1⟩
def CXw (v0 v : Mem) (u : Nat → Int) (n la j : Nat) : Prop := CF v u n la j ∧ FrW v0 v
def nfG (u : Nat → Int) (n : Nat) (G : Fn) : Nat → List FnT → List Nat
  | _, [] => []
  | fi, q :: r => nfF u n G fi q ++ nfG u n G (fi + 1) r
def tfG (u : Nat → Int) (n : Nat) (G : Fn) : List FnT → List Int
  | [] => []
  | q :: r => tfF u n G q ++ tfG u n G r
def coG (u : Nat → Int) (n : Nat) (G : Fn) : List FnT → Nat → Ac
  | [], _ => []
  | q :: r, pc => coF u n G q pc ++ coG u n G r (pc + (coF u n G q pc).length)
/-- entries and rows of the FUNCTIONS from fi on -/
def ENT (v : Mem) (u : Nat → Int) (n : Nat) (G : Fn) : Nat → Nat → List FnT → Prop
  | _, _, [] => True
  | fi, pc, q :: r => (v 6 fi = (pc : Int) ∧ v 7 fi = ((slF u n G q : Nat) : Int)) ∧ ENT v u n G (fi + 1) (pc + (coF u n G q pc).length) r
theorem ENT.same {v v' : Mem} {u : Nat → Int} {n : Nat} {G : Fn} : ∀ (l : List FnT) (fi pc : Nat), (∀ c k, (c = 6 ∨ c = 7) → fi ≤ k → k < fi + l.length → v' c k = v c k) → ENT v u n G fi pc l → ENT v' u n G fi pc l := by
  intro l
  induction l with
  | nil => intro fi pc _ _; trivial
  | cons q r ih =>
    intro fi pc h hE
    rw [List.length_cons] at h
    refine ⟨?_, ih (fi + 1) _ (fun c k h1 h2 h3 => h c k h1 (by omega) (by omega)) hE.2⟩
    rw [h 6 fi (by omega) (Nat.le_refl _) (by omega), h 7 fi (by omega) (Nat.le_refl _) (by omega)]
    exact hE.1
/-- behind a fault the loop over FUNCTIONS ends -/
theorem cx_prog {t : Int} {d : Nat} {v : Mem} {u : Nat → Int} {n la j : Nat} {Q : Int → Mem → Prop} {l2 l3 : Int} {fi : Nat} (hf : 0 < fi) (h : CF v u n la j) (hq : LL t (d + 2) 80 42 [(2, 22), (3, 0), (0, l2), (0, (w32 (l3 + 1))), (3, 0)] [] v Q) : LL t (d + 2) 80 72 [(2, 22), (3, 0), (0, l2), (0, l3), (0, (fi : Int))] [] v Q := by
  refine s_80_72 (d := d) ?_
  rw [h.expect_id, h.kind]
  exact ⟨fun _ => hq, fun _ => ⟨fun c => absurd c (by omega), fun _ => ⟨fun c => absurd c (by decide), fun _ => hq⟩⟩⟩
theorem prog_k {s t : Int} {u : Nat → Int} {n la F d : Nat} {v0 : Mem} {Q : Int → Mem → Prop} {G : Fn} {l2 l3 : Int} (hd : dB 0 + 6 ≤ d + 1) : ∀ (g i fi st : Nat) (r : Except Nat (List FnT)) (v : Mem) (G0 : Fn) (a : Ac) (nf : List Nat) (tf : List Int), PPr (kd u n) F g i fi st = some r → PX s v u n la i st (if s = 0 then G0 else G) → (s = 0 → G0.length = fi) → fi ≤ 20 → (fi = 0 ∨ kd u n i = 15) → (s = 1 → v 8 3 ≤ (ps u n i : Int)) → FrW v0 v → OW s v0 v a nf tf → (s = 1 → ∃ (l : List FnT) (pre : Fn), r = .ok l ∧ pre.length = fi ∧ G = pre ++ l.map (fnOf u n)) →
    (match r with
      | .error j => ∀ v', CXw v0 v' u n la j → LL t (d + 2) 80 42 [(2, 22), (3, 0), (0, l2), (0, (w32 (l3 + 1))), (3, 0)] [] v' Q
      | .ok l => ∀ v' i' st', PX s v' u n la i' st' (if s = 0 then G0 ++ l.map (fnOf u n) else G) → FrW v0 v' → OW s v0 v' (a ++ coG u n G l ((v0 8 3).toNat + a.length)) (nf ++ nfG u n G fi l) (tf ++ tfG u n G l) → (s = 1 → ENT v' u n G fi ((v0 8 3).toNat + a.length) l ∧ ∀ c k, (c = 6 ∨ c = 7) → k < fi → v' c k = v c k) → LL t (d + 2) 80 42 [(2, 22), (3, 0), (0, l2), (0, (w32 (l3 + 1))), (3, 0)] [] v' Q) → LL t (d + 2) 80 72 [(2, 22), (3, 0), (0, l2), (0, l3), (0, (fi : Int))] [] v Q := by
  intro g
  induction g with
  | zero => intro i fi st r v G0 a nf tf h; cases h
  | succ g ih =>
    intro i fi st r v G0 a nf tf hp hx hl hf20 hfi hr hfr ho hG hq
    have hp : (match PFn (kd u n) F i fi st with
      | none => none
      | some (.error e) => some (.error e)
      | some (.ok q) => if kd u n q.2.2.2.1 = 0 then some (.ok [(i, q.1, q.2.1, q.2.2.1)]) else (match PPr (kd u n) F g q.2.2.2.1 (fi + 1) q.2.2.2.2 with
        | none => none
        | some (.error e) => some (.error e)
        | some (.ok l) => some (.ok ((i, q.1, q.2.1, q.2.2.1) :: l)))) = some r := hp
    have hpc : s = 1 → (v 8 3).toNat = (v0 8 3).toNat + a.length := fun hs => by
      obtain ⟨pc, h1, h2, -⟩ := ho.2 hs
      rw [h1, h2]
      omega
    have main : RR t (d + 1) 85 [(2, 22), (0, (fi : Int))] v (fun x3 v3 => LL t (d + 2) 80 72 [(2, 22), (3, 0), (0, l2), (0, l3), (0, (w32 ((fi : Int) + 1)))] [] v3 Q) := by
      rw [wS (k := fi) (m := 21) (by omega) (by decide)]
      cases hF : PFn (kd u n) F i fi st with
      | none => rw [hF] at hp; cases hp
      | some rf =>
        rw [hF] at hp
        match rf, hF, hp with
        | .error e, hF, hp =>
          cases hp
          refine fun_k hF hd hx hl hr hf20 (fun _ q e => by cases e) ?_
          intro v' hx'
          exact cx_prog (Nat.succ_pos _) hx'.1 (hq v' ⟨hx'.1, hfr.trans (FrW.of hx'.2)⟩)
        | .ok q, hF, hp =>
          have hf1 := (PFn_ok hF).1
          refine fun_k hF hd hx hl hr hf20 (fun hs q' e => ?_) ?_
          · cases e
            -- the row of this FUNCTION
            have key : ∃ (pre : Fn) (rest : Fn), pre.length = fi ∧ G = pre ++ fnOf u n (i, q.1, q.2.1, q.2.2.1) :: rest := by
              by_cases k0 : kd u n q.2.2.2.1 = 0
              · have hp : (if kd u n q.2.2.2.1 = 0 then some (Except.ok [(i, q.1, q.2.1, q.2.2.1)]) else _) = some r := hp
                rw [if_pos k0] at hp
                obtain ⟨l, pre, e0, e1, e2⟩ := hG hs
                cases hp
                cases e0
                exact ⟨pre, [], e1, e2⟩
              · have hp : (if kd u n q.2.2.2.1 = 0 then some (Except.ok [(i, q.1, q.2.1, q.2.2.1)]) else (match PPr (kd u n) F g q.2.2.2.1 (fi + 1) q.2.2.2.2 with
                  | none => none
                  | some (.error e) => some (.error e)
                  | some (.ok l) => some (.ok ((i, q.1, q.2.1, q.2.2.1) :: l)))) = some r := hp
                rw [if_neg k0] at hp
                cases hr2 : PPr (kd u n) F g q.2.2.2.1 (fi + 1) q.2.2.2.2 with
                | none => rw [hr2] at hp; cases hp
                | some r2 =>
                  rw [hr2] at hp
                  match r2, hp with
                  | .error e, hp =>
                    obtain ⟨l, pre, e0, e1, e2⟩ := hG hs
                    cases hp
                    cases e0
                  | .ok l, hp =>
                    obtain ⟨l', pre, e0, e1, e2⟩ := hG hs
                    cases hp
                    cases e0
                    exact ⟨pre, l.map (fnOf u n), e1, e2⟩
            obtain ⟨pre, rest, e1, e2⟩ := key
            subst e1
            rw [e2]
            refine ⟨by rw [List.length_append, List.length_cons]; omega, ?_⟩
            rw [List.getD_eq_getElem?_getD, List.getElem?_append_right (Nat.le_refl _), Nat.sub_self]
            rfl
          · intro v' hx' hf' ho' hr' h67
            have hfr' : FrW v0 v' := hfr.trans (FrW.of hf')
            have ho2 := (ho.trans ho').eq (b := a ++ coF u n G (i, q.1, q.2.1, q.2.2.1) ((v0 8 3).toNat + a.length)) (fun hs => by rw [hpc hs]) (fun _ => rfl) (fun _ => rfl)
            have hgc : gcS s G0 G (fnOf u n (i, q.1, q.2.1, q.2.2.1)) = (if s = 0 then G0 ++ [fnOf u n (i, q.1, q.2.1, q.2.2.1)] else G) := rfl
            rw [hgc] at hx'
            have hk' : f_155 (v' 22 10) v' = kd u n q.2.2.2.1 := hx'.1.kind
            have hp : (if kd u n q.2.2.2.1 = 0 then some (Except.ok [(i, q.1, q.2.1, q.2.2.1)]) else (match PPr (kd u n) F g q.2.2.2.1 (fi + 1) q.2.2.2.2 with
                  | none => none
                  | some (.error e) => some (.error e)
                  | some (.ok l) => some (.ok ((i, q.1, q.2.1, q.2.2.1) :: l)))) = some r := hp
            by_cases k0 : kd u n q.2.2.2.1 = 0
            · rw [if_pos k0] at hp
              cases hp
              -- the END
              have hend : m_123 0 v' = v' := by
                unfold m_123
                rw [hk', if_pos k0]
                unfold m_122
                have h1 := hx'.1.2.2.1
                have h2 := hx'.1.1.2.2.2
                have h3 : ¬ q.2.2.2.1 < la := fun h4 => by
                  have h5 := (hx'.1.1.1.2.2.2.1 q.2.2.2.1 h4).2.2.2
                  rw [hx'.1.1.2.2.1] at h5
                  exact h5 k0
                rw [h1, h2, if_neg (by omega)]
              have fin := hq v' _ _ hx' hfr' (ho2.eq (fun _ => ?_) (fun _ => ?_) (fun _ => ?_)) (fun hs => ⟨⟨?_, trivial⟩, fun c k hc hk => hf'.2.2.2.2.2.2 c k hc (by omega)⟩)
              · refine s_80_72 (d := d) ?_
                rw [hend, hk', k0]
                exact ⟨fun _ => fin, fun _ => ⟨fun c => absurd c (by omega), fun _ => ⟨fun c => absurd c (by decide), fun _ => fin⟩⟩⟩
              · show _ = a ++ (coF u n G (i, q.1, q.2.1, q.2.2.1) ((v0 8 3).toNat + a.length) ++ [])
                rw [List.append_nil]
              · show _ = nf ++ (nfF u n G fi (i, q.1, q.2.1, q.2.2.1) ++ [])
                rw [List.append_nil]
              · show _ = tf ++ (tfF u n G (i, q.1, q.2.1, q.2.2.1) ++ [])
                rw [List.append_nil]
              · rw [← hpc hs]; exact h67 hs
            · rw [if_neg k0] at hp
              cases hr2 : PPr (kd u n) F g q.2.2.2.1 (fi + 1) q.2.2.2.2 with
              | none => rw [hr2] at hp; cases hp
              | some r2 =>
                rw [hr2] at hp
                by_cases k15 : kd u n q.2.2.2.1 = 15
                · have hl' : s = 0 → (G0 ++ [fnOf u n (i, q.1, q.2.1, q.2.2.1)]).length = fi + 1 := fun hs => by rw [List.length_append, hl hs]; rfl
                  match r2, hr2, hp with
                  | .error e, hr2, hp =>
                    cases hp
                    refine ih q.2.2.2.1 (fi + 1) q.2.2.2.2 _ v' (G0 ++ [fnOf u n (i, q.1, q.2.1, q.2.2.1)]) _ _ _ hr2 hx' hl' (by omega) (Or.inr k15) (fun hs => by have := hr' hs; have := hr hs; omega) hfr' ho2 (fun hs => ?_) hq
                    obtain ⟨l, pre, e0, -⟩ := hG hs
                    cases e0
                  | .ok l, hr2, hp =>
                    cases hp
                    refine ih q.2.2.2.1 (fi + 1) q.2.2.2.2 _ v' (G0 ++ [fnOf u n (i, q.1, q.2.1, q.2.2.1)]) _ _ _ hr2 hx' hl' (by omega) (Or.inr k15) (fun hs => by have := hr' hs; have := hr hs; omega) hfr' ho2 (fun hs => ?_) ?_
                    · obtain ⟨l', pre, e0, e1, e2⟩ := hG hs
                      cases e0
                      exact ⟨l, pre ++ [fnOf u n (i, q.1, q.2.1, q.2.2.1)], rfl, by rw [List.length_append, e1]; rfl, by rw [e2, List.append_assoc]; rfl⟩
                    · intro v6 i6 st6 h6 f6 o6 e6
                      refine hq v6 i6 st6 ?_ f6 (o6.eq (fun _ => ?_) (fun _ => ?_) (fun _ => ?_)) (fun hs => ⟨⟨?_, ?_⟩, fun c k hc hk => ?_⟩)
                      · have e7 : G0 ++ [fnOf u n (i, q.1, q.2.1, q.2.2.1)] ++ l.map (fnOf u n) = G0 ++ ((i, q.1, q.2.1, q.2.2.1) :: l).map (fnOf u n) := by rw [List.append_assoc]; rfl
                        rw [e7] at h6
                        exact h6
                      · show _ = a ++ (coF u n G (i, q.1, q.2.1, q.2.2.1) ((v0 8 3).toNat + a.length) ++ coG u n G l ((v0 8 3).toNat + a.length + (coF u n G (i, q.1, q.2.1, q.2.2.1) ((v0 8 3).toNat + a.length)).length))
                        simp only [List.append_assoc, List.length_append, Nat.add_assoc]
                      · show _ = nf ++ (nfF u n G fi (i, q.1, q.2.1, q.2.2.1) ++ nfG u n G (fi + 1) l)
                        simp only [List.append_assoc]
                      · show _ = tf ++ (tfF u n G (i, q.1, q.2.1, q.2.2.1) ++ tfG u n G l)
                        simp only [List.append_assoc]
                      · rw [(e6 hs).2 6 fi (Or.inl rfl) (Nat.lt_succ_self _), (e6 hs).2 7 fi (Or.inr rfl) (Nat.lt_succ_self _), ← hpc hs]
                        exact h67 hs
                      · have := (e6 hs).1
                        rw [List.length_append, ← Nat.add_assoc] at this
                        exact this
                      · rw [(e6 hs).2 c k hc (by omega)]
                        exact hf'.2.2.2.2.2.2 c k hc (by omega)
                · -- a word that is no fn
                  have er : r2 = .error q.2.2.2.1 := by
                    match g, hr2 with
                    | g + 1, hr2 =>
                      have e9 : PFn (kd u n) F q.2.2.2.1 (fi + 1) q.2.2.2.2 = some (.error q.2.2.2.1) := by
                        unfold PFn
                        rw [if_neg (fun h => k15 h.1)]
                      have hr2 : (match PFn (kd u n) F q.2.2.2.1 (fi + 1) q.2.2.2.2 with
                        | none => none
                        | some (.error e) => some (.error e)
                        | some (.ok q) => _) = some r2 := hr2
                      rw [e9] at hr2
                      cases hr2
                      rfl
                  subst er
                  cases hp
                  have fin := hq (m_124 v') ⟨hx'.1.refuse_st, hfr'.trans (FrW.of (fi := fi) (FrP.of (FrS.of FrE.refuse)))⟩
                  have hend : m_123 0 v' = m_124 v' := by
                    unfold m_123
                    rw [hk', if_neg k0]
                  refine s_80_72 (d := d) ?_
                  rw [hend, hk']
                  exact ⟨fun _ => fin, fun _ => ⟨fun c => absurd c (by omega), fun _ => ⟨fun c => absurd c k15, fun _ => fin⟩⟩⟩
    refine s_80_72 (d := d) ⟨fun c => absurd c (by omega), fun _ => ⟨fun _ => main, fun c => ⟨fun _ => main, fun c2 => ?_⟩⟩⟩
    rcases hfi with e | e
    · exact absurd (by omega) c
    · have hk : f_155 (v 22 10) v = kd u n i := hx.1.kind
      rw [hk] at c2
      exact absurd e c2
