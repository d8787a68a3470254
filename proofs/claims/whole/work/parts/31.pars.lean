/-! The grammar of an E, purely, over the kinds K of the words: a tree, the next word, the SIGNS so far; or the word at fault; none: out of fuel.
Trees are told in a type that is there: arg i: the word i alone (NUMBER, QUOTES, a local's NAME); elem (arg i) e: ( e ) from word i on; mul (arg i) e: - or ! in front; add (arg i) (sub l r): the sign i between two; div t e: t[e]; rem t (sub a b): t[a : b]; op2 iand (arg i) e: len, digits, sign; op2 ior (arg i) (sub a b): find; op2 ixor (arg i) as: a call; null, sub e as: what is handed over. -/
abbrev PR : Type := Option (Except Nat (Jvm.Term × Nat × Nat))
def bnd (r : PR) (k : Jvm.Term → Nat → Nat → PR) : PR := match r with
  | none => none
  | some (.error j) => some (.error j)
  | some (.ok q) => k q.1 q.2.1 q.2.2
def okP (e : Jvm.Term) (i sg : Nat) : PR := some (.ok (e, i, sg))
def erP (j : Nat) : PR := some (.error j)
def lvl (k : Int) : Nat := if k = 20 then 0 else if k = 10 then 1 else if k = 189 ∨ k = 161 ∨ k = 60 ∨ k = 188 then 2 else if k = 43 ∨ k = 45 ∨ k = 38 then 3 else if k = 42 ∨ k = 47 ∨ k = 37 then 4 else 9
def nodeB (i : Nat) (l r : Jvm.Term) : Jvm.Term := .add (.arg i) (.sub l r)
/-- modes: 0 .. 4 a row of that level; 5 FRONT; 6 PART; 7 ATOM; 10 .. 14 the rest of a row behind x; 16 the rest of a PART behind x; 17 what is handed over (one or more) -/
def PE (K : Nat → Int) : Nat → Nat → Jvm.Term → Nat → Nat → Nat → PR
  | 0, _, _, _, _, _ => none
  | f + 1, m, x, i, sg, nb =>
    if m < 5 then bnd (PE K f (m + 1) x i sg nb) (fun e i1 s1 => PE K f (m + 10) e i1 s1 nb)
    else if m = 5 then (if K i = 45 ∨ K i = 33 then (if 40 ≤ sg then erP i else bnd (PE K f 5 x (i + 1) (sg + 1) nb) (fun e i1 s1 => okP (.mul (.arg i) e) i1 s1)) else PE K f 6 x i sg nb)
    else if m = 6 then bnd (PE K f 7 x i sg nb) (fun e i1 s1 => PE K f 16 e i1 s1 nb)
    else if m = 7 then (
      if K i = 3 ∨ K i = 4 then okP (.arg i) (i + 1) sg
      else if K i = 2 then (if K (i + 1) = 40 then (if 40 ≤ sg then erP i else if 8 ≤ nb then erP (i + 1) else if K (i + 2) = 41 then okP (.op2 .ixor (.arg i) .null) (i + 3) (sg + 1)
          else bnd (PE K f 17 x (i + 2) (sg + 1) (nb + 1)) (fun as i1 s1 => if K i1 = 41 then okP (.op2 .ixor (.arg i) as) (i1 + 1) s1 else erP i1)) else okP (.arg i) (i + 1) sg)
      else if K i = 40 then (if 8 ≤ nb then erP i else bnd (PE K f 0 x (i + 1) sg (nb + 1)) (fun e i1 s1 => if K i1 = 41 then okP (.elem (.arg i) e) (i1 + 1) s1 else erP i1))
      else if K i = 18 ∨ K i = 11 ∨ K i = 23 then (if 40 ≤ sg then erP i else if K (i + 1) = 40 ∧ nb < 8 then bnd (PE K f 0 x (i + 2) (sg + 1) (nb + 1)) (fun e i1 s1 => if K i1 = 41 then okP (.op2 .iand (.arg i) e) (i1 + 1) s1 else erP i1) else erP (i + 1))
      else if K i = 14 then (if 40 ≤ sg then erP i else if K (i + 1) = 40 ∧ nb < 8 then bnd (PE K f 0 x (i + 2) (sg + 1) (nb + 1)) (fun a i1 s1 => if K i1 = 44 then bnd (PE K f 0 x (i1 + 1) s1 (nb + 1)) (fun b i2 s2 => if K i2 = 41 then okP (.op2 .ior (.arg i) (.sub a b)) (i2 + 1) s2 else erP i2) else erP i1) else erP (i + 1))
      else erP i)
    else if m < 15 then (if lvl (K i) + 10 = m then (if 40 ≤ sg then erP i else bnd (PE K f (m - 9) x (i + 1) (sg + 1) nb) (fun y i1 s1 => if m = 12 then okP (nodeB i x y) i1 s1 else PE K f m (nodeB i x y) i1 s1 nb)) else okP x i sg)
    else if m = 16 then (if K i = 91 then (if 40 ≤ sg then erP i else if 8 ≤ nb then erP i else bnd (PE K f 0 x (i + 1) (sg + 1) (nb + 1)) (fun a i1 s1 =>
        if K i1 = 58 then bnd (PE K f 0 x (i1 + 1) s1 (nb + 1)) (fun b i2 s2 => if K i2 = 93 then PE K f 16 (.rem x (.sub a b)) (i2 + 1) s2 nb else erP i2)
        else if K i1 = 93 then PE K f 16 (.div x a) (i1 + 1) s1 nb else erP i1)) else okP x i sg)
    else bnd (PE K f 0 x i sg nb) (fun e i1 s1 => if K i1 = 44 then bnd (PE K f 17 x (i1 + 1) s1 nb) (fun r i2 s2 => okP (.sub e r) i2 s2) else okP (.sub e .null) i1 s1)
/-! The reference while it reads an E. -/
/-- the word at hand is word i; sg SIGNS, nb brackets, nd nodes; no fault yet -/
def ES (v : Mem) (u : Nat → Int) (n i sg nb nd : Nat) : Prop := uB (v 40) n = u ∧ CW v n (ps u n i) ∧ v 38 39 = sg ∧ v 38 38 = nb ∧ v 38 31 = nd ∧ v 38 5 = 0
/-- nested, signs, deep, scope stay at least 0 -/
def NNr (v v' : Mem) : Prop := ((∀ k, 38 ≤ k → k ≤ 41 → 0 ≤ v 38 k) → ∀ k, 38 ≤ k → k ≤ 41 → 0 ≤ v' 38 k) ∧ (v' 38 5 = 0 → v 38 5 = 0 ∧ v' 38 6 = v 38 6)
theorem NNr.refl (v : Mem) : NNr v v := ⟨fun h => h, fun h => ⟨h, rfl⟩⟩
theorem NNr.trans {v v' v'' : Mem} (h : NNr v v') (h' : NNr v' v'') : NNr v v'' := ⟨fun q => h'.1 (h.1 q), fun e => ⟨(h.2 (h'.2 e).1).1, (h'.2 e).2.trans (h.2 (h'.2 e).1).2⟩⟩
theorem NNr.eq {v v' : Mem} (h : ∀ k, 5 ≤ k → ((k ≤ 6 ∨ 38 ≤ k) ∧ k ≤ 41) → v' 38 k = v 38 k) : NNr v v' := ⟨fun q k h1 h2 => by rw [h k (by omega) (by omega)]; exact q k h1 h2, fun e => ⟨by rw [← h 5 (by omega) (by omega)]; exact e, h 6 (by omega) (by omega)⟩⟩
theorem NNr.up {v : Mem} {k : Nat} {a : Int} (ha : 38 ≤ k → 0 ≤ a) (h6 : (k = 5 → a ≠ 0) ∧ (k = 6 → v 38 5 ≠ 0)) : NNr v (up v 38 k a) := by
  refine ⟨fun q j h1 h2 => ?_, fun e => ?_⟩
  · by_cases e : j = k
    · subst e; rw [up_k]; exact ha h1
    · rw [up_nk e]; exact q j h1 h2
  · by_cases k5 : k = 5
    · subst k5; rw [up_k] at e; exact absurd e (h6.1 rfl)
    · rw [up_nk (fun h => k5 h.symm)] at e
      by_cases k6 : k = 6
      · exact absurd e (h6.2 k6)
      · exact ⟨e, up_nk (fun h => k6 h.symm)⟩
/-- what reading an E leaves alone: all but the nodes from nd on and the reader's own numbers -/
def EFr (nd : Nat) (v v' : Mem) : Prop := (∀ c x, c ≠ 38 → (c < 57 ∨ 62 < c ∨ x < nd) → v' c x = v c x) ∧ (∀ k, (k < 5 ∨ k = 7 ∨ (12 < k ∧ k < 31) ∨ (31 < k ∧ k < 38) ∨ 39 < k) → v' 38 k = v 38 k) ∧ NNr v v'
theorem EFr.refl {nd : Nat} (v : Mem) : EFr nd v v := ⟨fun _ _ _ _ => rfl, fun _ _ => rfl, NNr.refl v⟩
theorem EFr.trans {nd nd' : Nat} {v v' v'' : Mem} (h : EFr nd v v') (h' : EFr nd' v' v'') (hn : nd ≤ nd') : EFr nd v v'' := by
  refine ⟨fun c x hc hx => ?_, fun k hk => (h'.2.1 k hk).trans (h.2.1 k hk), h.2.2.trans h'.2.2⟩
  rw [h'.1 c x hc (by omega), h.1 c x hc hx]
theorem EFr.s38 {nd : Nat} {v v' : Mem} (h : S38 v v') : EFr nd v v' := ⟨fun c x hc _ => by rw [h.1 c hc], fun k hk => h.2 k (by omega), NNr.eq (fun k h1 h2 => h.2 k (by omega))⟩
theorem EFr.u38 {nd : Nat} {v : Mem} {k : Nat} {a : Int} (hk : k = 5 ∨ k = 6 ∨ (8 ≤ k ∧ k ≤ 12) ∨ k = 31 ∨ k = 38 ∨ k = 39) (ha : 38 ≤ k → 0 ≤ a := by omega) (h6 : (k = 5 → a ≠ 0) ∧ (k = 6 → v 38 5 ≠ 0) := by first | omega | exact ⟨fun h => absurd h (by decide), fun _ => by show ¬ (1 : Int) = 0; decide⟩) : EFr nd v (up v 38 k a) := ⟨fun c x hc _ => by rw [up_ne hc], fun j hj => by rw [up_nk (by omega)], NNr.up ha h6⟩
theorem EFr.upc {nd : Nat} {v : Mem} {c x : Nat} {a : Int} (hc : 57 ≤ c ∧ c ≤ 62) (hx : nd ≤ x) : EFr nd v (up v c x a) := ⟨fun c' x' hc' hx' => by
  by_cases e : c' = c
  · subst e
    rw [up_nk (by omega)]
  · rw [up_ne e], fun j hj => by rw [up_ne (by omega)], NNr.eq (fun j _ _ => by rw [up_ne (by omega)])⟩
theorem ES.ck {v : Mem} {u : Nat → Int} {n i sg nb nd : Nat} (h : ES v u n i sg nb nd) : ck v n (ps u n i) = kd u n i := by
  show (wordAt (uB (v 40) n) n (ps u n i)).1 = (wordAt u n (ps u n i)).1
  rw [h.1]
theorem ES.kind {v : Mem} {u : Nat → Int} {n i sg nb nd : Nat} (h : ES v u n i sg nb nd) : v 38 9 = rk (kd u n i) := by
  have := h.2.1.2.2.2.2.1
  rw [h.1] at this
  exact this
theorem ES.at {v : Mem} {u : Nat → Int} {n i sg nb nd : Nat} (h : ES v u n i sg nb nd) : v 38 10 = (ps u n i : Nat) := h.2.1.2.2.2.1
theorem ES.same {v v' : Mem} {u : Nat → Int} {n i sg nb nd sg' nb' nd' : Nat} (h : ES v u n i sg nb nd) (h0 : v' 40 = v 40) (h1 : ∀ k, (k = 3 ∨ (8 ≤ k ∧ k ≤ 12)) → v' 38 k = v 38 k) (h2 : v' 38 39 = sg') (h3 : v' 38 38 = nb') (h4 : v' 38 31 = nd') (h5 : v' 38 5 = 0) : ES v' u n i sg' nb' nd' := by
  obtain ⟨a1, a2, -, -, -, -⟩ := h
  refine ⟨by rw [h0]; exact a1, ?_, h2, h3, h4, h5⟩
  unfold CW TXT at a2 ⊢
  rw [h0, h1 3 (by omega), h1 8 (by omega), h1 9 (by omega), h1 10 (by omega), h1 11 (by omega), h1 12 (by omega)]
  exact a2
theorem ps_next {u : Nat → Int} {n i : Nat} (hk : kd u n i ≠ 1) : ps u n (i + 1) = en isBl u n (wordAt u n (ps u n i)).2.1 := by
  show en isBl u n (toC u n (ps u n i)) = _
  unfold toC
  rw [if_neg (show ¬ (wordAt u n (ps u n i)).1 = 1 from hk)]
theorem nx_es {t : Int} {d : Nat} {v : Mem} {Q : Int → Mem → Prop} {u : Nat → Int} {n i sg nb nd : Nat} (h : ES v u n i sg nb nd) (hk : kd u n i ≠ 1) (hq : ∀ v', ES v' u n (i + 1) sg nb nd → S38 v v' → Q 0 v') : RR t (d + 8) 189 [(2, 38)] v Q := by
  obtain ⟨a1, ⟨c1, c2, c3, c4, c5, c6, c7, c8⟩, a3, a4, a5, a6⟩ := h
  have hto := wordAt_to (u := u) (b := v 40) (n := n) (i := ps u n i) a1.symm c3
  rw [a1] at c7
  refine next_rr (n - (wordAt u n (ps u n i)).2.1) (wordAt u n (ps u n i)).2.1 v (Nat.add_sub_cancel' hto.2) c1 c2 c7 (fun v' h1 h2 => ?_)
  have e40 : v' 40 = v 40 := h2.1 40 (by decide)
  rw [a1, ← ps_next hk] at h1
  exact hq v' ⟨by rw [e40]; exact a1, h1, by rw [h2.2 39 (by omega)]; exact a3, by rw [h2.2 38 (by omega)]; exact a4, by rw [h2.2 31 (by omega)]; exact a5, by rw [h2.2 5 (by omega)]; exact a6⟩ h2
/-- a fault of THE TEXT at word j has been told -/
def FT1 (v' : Mem) (u : Nat → Int) (n j : Nat) : Prop := v' 38 5 = 1 ∧ v' 38 6 = (ps u n j : Nat)
theorem m194 {v : Mem} {a : Int} (h : v 38 5 = 0) : m_194 a v = up (up v 38 5 1) 38 6 a := by unfold m_194; rw [if_pos h]
/-- a node more -/
def nodeM (v : Mem) (nd : Nat) (k a b c f : Int) : Mem := up (up (up (up (up (up (up v 57 nd k) 58 nd a) 59 nd b) 60 nd c) 61 nd f) 62 nd (-1)) 38 31 ((nd + 1 : Nat) : Int)
theorem node_rr {t : Int} {d : Nat} {v : Mem} {Q : Int → Mem → Prop} {nd : Nat} {k a b c f : Int} (hnd : v 38 31 = nd) (hlt : nd < 3300) (hq : Q nd (nodeM v nd k a b c f)) : RR t d 196 [(2, 38), (0, k), (0, a), (0, b), (0, c), (0, f)] v Q := by
  have g : 0 ≤ (nd : Int) ∧ (nd : Int) < 3300 := ⟨Int.natCast_nonneg _, by omega⟩
  refine w_196 ?_
  rw [hnd, Int.toNat_natCast, wS hlt (by decide), show w32 (((nd + 1 : Nat) : Int) - 1) = (nd : Int) from wNat (by omega) (by omega)]
  exact ⟨g, g, g, g, g, g, hq⟩
theorem sign_rr {t : Int} {d : Nat} {v : Mem} {Q : Int → Mem → Prop} {sg : Nat} {a : Int} (hs : v 38 39 = sg) (h5 : v 38 5 = 0) (hlt : sg < 100) (h1 : sg < 40 → Q 1 (up v 38 39 ((sg + 1 : Nat) : Int))) (h2 : 40 ≤ sg → Q 0 (up (up (up v 38 39 ((sg + 1 : Nat) : Int)) 38 5 1) 38 6 a)) : RR t (d + 1) 197 [(2, 38), (0, a)] v Q := by
  refine s_197 ?_
  rw [hs, wS hlt (by decide), m194 (v := up v 38 39 ((sg + 1 : Nat) : Int)) h5]
  exact ⟨fun h => h2 (by omega), fun h => h1 (by omega)⟩
