/-! The reference reads an E: one step of the induction on the grammar's fuel, mode by mode. -/
def isE : Jvm.Term → Prop
  | .null => False
  | .sub _ _ => False
  | .elem _ e => isE e
  | _ => True
def EG (v : Mem) (u : Nat → Int) (n i sg nb nd : Nat) : Prop := ES v u n i sg nb nd ∧ i ≤ ps u n i ∧ nb ≤ 8 ∧ sg ≤ 40
theorem EG.lt {v : Mem} {u : Nat → Int} {n i sg nb nd : Nat} (h : EG v u n i sg nb nd) : i ≤ 3200 := Nat.le_trans h.2.1 (Nat.le_trans h.1.2.1.2.2.1 h.1.2.1.2.1.1)
theorem EG.next {v v' : Mem} {u : Nat → Int} {n i sg nb nd sg' nb' nd' : Nat} (h : EG v u n i sg nb nd) (hk0 : kd u n i ≠ 0) (hk1 : kd u n i ≠ 1) (h' : ES v' u n (i + 1) sg' nb' nd') (hn : nb' ≤ 8) (hs : sg' ≤ 40) : EG v' u n (i + 1) sg' nb' nd' := by
  refine ⟨h', ?_, hn, hs⟩
  obtain ⟨⟨a1, a2, -⟩, b1, -⟩ := h
  have hpn : ps u n i < n := by
    rcases Nat.lt_or_eq_of_le a2.2.2.1 with h9 | h9
    · exact h9
    · exact absurd (by unfold kd; rw [h9, ← a1, word_end]) hk0
  have h2 := (word_adv (b := v 40) hpn).2
  have h3 := wordAt_to (u := u) (b := v 40) a1.symm (Nat.le_of_lt hpn)
  rw [a1] at h2
  have h4 : ps u n i < (wordAt u n (ps u n i)).2.1 := by
    rcases h2 with h9 | h9
    · exact absurd h9 hk1
    · exact h9
  rw [ps_next hk1]
  have h5 := en_b (p := isBl) (u := u) h3.2
  omega
/-- what must hold of Q so that an E may be read: behind a fault, behind the E -/
def PoE (Q : Int → Mem → Prop) (v : Mem) (u : Nat → Int) (n lo nd nb sg i : Nat) (r : Except Nat (Jvm.Term × Nat × Nat)) : Prop := match r with
  | .error j => ∀ v', FT1 v' u n j → EFr nd v v' → Q (-1) v'
  | .ok q => ∀ (v' : Mem) (nd' X : Nat), EG v' u n q.2.1 q.2.2 nb nd' → EFr nd v v' → RN v' u n q.1 lo nd' X → isE q.1 → (v' 61 X = fstT u n q.1 ∧ v' 62 X = -1) → lo ≤ X ∧ X < nd' → nd ≤ nd' → nd' + i ≤ nd + q.2.1 → sg ≤ q.2.2 → Q X v'
theorem PoE.mono {Q : Int → Mem → Prop} {v v' : Mem} {u : Nat → Int} {n lo nd nd' nb sg s1 i i1 : Nat} {r : Except Nat (Jvm.Term × Nat × Nat)} (h : PoE Q v u n lo nd nb sg i r) (hf : EFr nd v v') (h1 : nd ≤ nd') (h2 : nd' + i ≤ nd + i1) (h3 : sg ≤ s1) : PoE Q v' u n lo nd' nb s1 i1 r := by
  match r, h with
  | .error j, h => exact fun w a1 a2 => h w a1 (hf.trans a2 h1)
  | .ok q, h => exact fun w nd2 X a1 a2 a3 a4 a5 a6 a7 a8 a9 => h w nd2 X a1 (hf.trans a2 h1) a3 a4 a5 a6 (Nat.le_trans h1 a7) (by omega) (Nat.le_trans h3 a9)
/-- frames that are needed -/
def dN (nb sg c : Nat) : Nat := 40 * (8 - nb) + 3 * (41 - sg) + c + 30
def HE (t : Int) (u : Nat → Int) (n f : Nat) : Prop := ∀ (l : Nat) (x : Jvm.Term) (i sg nb : Nat) (r : Except Nat (Jvm.Term × Nat × Nat)), l ≤ 5 → PE (kd u n) f l x i sg nb = some r → ∀ (d : Nat) (v : Mem) (Q : Int → Mem → Prop) (nd : Nat), dN nb sg (12 - l) ≤ d → EG v u n i sg nb nd → nd ≤ i → PoE Q v u n nd nd nb sg i r → RR t d 201 [(2, 38), (0, (l : Int))] v Q
def HF (t : Int) (u : Nat → Int) (n f : Nat) : Prop := ∀ (x : Jvm.Term) (i sg nb : Nat) (r : Except Nat (Jvm.Term × Nat × Nat)), PE (kd u n) f 5 x i sg nb = some r → ∀ (d : Nat) (v : Mem) (Q : Int → Mem → Prop) (nd : Nat), dN nb sg 6 ≤ d → EG v u n i sg nb nd → nd ≤ i → PoE Q v u n nd nd nb sg i r → RR t d 202 [(2, 38)] v Q
def HP (t : Int) (u : Nat → Int) (n f : Nat) : Prop := ∀ (x : Jvm.Term) (i sg nb : Nat) (r : Except Nat (Jvm.Term × Nat × Nat)), PE (kd u n) f 6 x i sg nb = some r → ∀ (d : Nat) (v : Mem) (Q : Int → Mem → Prop) (nd : Nat), dN nb sg 5 ≤ d → EG v u n i sg nb nd → nd ≤ i → PoE Q v u n nd nd nb sg i r → RR t d 203 [(2, 38)] v Q
def HA (t : Int) (u : Nat → Int) (n f : Nat) : Prop := ∀ (x : Jvm.Term) (i sg nb : Nat) (r : Except Nat (Jvm.Term × Nat × Nat)), PE (kd u n) f 7 x i sg nb = some r → ∀ (d : Nat) (v : Mem) (Q : Int → Mem → Prop) (nd : Nat), dN nb sg 4 ≤ d → EG v u n i sg nb nd → nd ≤ i → PoE Q v u n nd nd nb sg i r → RR t d 204 [(2, 38)] v Q
def HL (t : Int) (u : Nat → Int) (n f : Nat) : Prop := ∀ (l : Nat) (x : Jvm.Term) (i sg nb : Nat) (r : Except Nat (Jvm.Term × Nat × Nat)), l < 5 → PE (kd u n) f (l + 10) x i sg nb = some r → ∀ (d : Nat) (v : Mem) (Q : Int → Mem → Prop) (lo nd X : Nat), dN nb sg (12 - l) ≤ d → EG v u n i sg nb nd → nd ≤ i → RN v u n x lo nd X → isE x → (v 61 X = fstT u n x ∧ v 62 X = -1) → lo ≤ X ∧ X < nd → PoE Q v u n lo nd nb sg i r → LL t d 201 32 [(2, 38), (0, (l : Int)), (0, (X : Int)), (0, if lvl (kd u n i) = l then opc (kd u n i) else 0), (3, 0)] [] v Q
def HQ (t : Int) (u : Nat → Int) (n f : Nat) : Prop := ∀ (x : Jvm.Term) (i sg nb : Nat) (r : Except Nat (Jvm.Term × Nat × Nat)), PE (kd u n) f 16 x i sg nb = some r → ∀ (d : Nat) (v : Mem) (Q : Int → Mem → Prop) (lo nd X : Nat), dN nb sg 5 ≤ d → EG v u n i sg nb nd → nd ≤ i → RN v u n x lo nd X → isE x → (v 61 X = fstT u n x ∧ v 62 X = -1) → lo ≤ X ∧ X < nd → PoE Q v u n lo nd nb sg i r → LL t d 203 5 [(2, 38), (0, (X : Int)), (3, 0), (3, 0)] [] v Q
theorem bnd_some {p : PR} {k : Jvm.Term → Nat → Nat → PR} {r : Except Nat (Jvm.Term × Nat × Nat)} (h : bnd p k = some r) : (∃ j, p = some (.error j) ∧ r = .error j) ∨ ∃ e i s, p = some (.ok (e, i, s)) ∧ k e i s = some r := by
  match p, h with
  | some (.error j), h => exact Or.inl ⟨j, rfl, (Option.some.inj h).symm⟩
  | some (.ok (e, i, s)), h => exact Or.inr ⟨e, i, s, rfl, h⟩
theorem betw {t : Int} {d : Nat} {v : Mem} {Q : Int → Mem → Prop} {u : Nat → Int} {n i sg nb nd l : Nat} (hl : l < 5) (h : ES v u n i sg nb nd) (hd : 6 ≤ d) (hq : Q (if lvl (kd u n i) = l then opc (kd u n i) else 0) v) : RR t d 200 [(2, 38), (0, (l : Int))] v Q := by
  refine RR.deep (d := 0 + 6) ?_ hd
  match l, hl, hq with
  | 0, _, hq => exact betw_0 h hq
  | 1, _, hq => exact betw_1 h hq
  | 2, _, hq => exact betw_2 h hq
  | 3, _, hq => exact betw_3 h hq
  | 4, _, hq => exact betw_4 h hq
theorem opc_ne {k : Int} (h : lvl k < 5) : opc k ≠ 0 := by
  have : k = 20 ∨ k = 10 ∨ k = 189 ∨ k = 161 ∨ k = 60 ∨ k = 188 ∨ k = 43 ∨ k = 45 ∨ k = 38 ∨ k = 42 ∨ k = 47 ∨ k = 37 := by
    unfold lvl at h
    split at h
    · omega
    · split at h
      · omega
      · split at h
        · omega
        · split at h
          · omega
          · split at h
            · omega
            · omega
  rcases this with e | e | e | e | e | e | e | e | e | e | e | e <;> (rw [e]; decide)
theorem lvl_k {k : Int} (h : lvl k < 5) : k ≠ 0 ∧ k ≠ 1 := ⟨fun e => by rw [e] at h; exact absurd h (by decide), fun e => by rw [e] at h; exact absurd h (by decide)⟩
/-- a fault told over some frames -/
theorem FT_up {v : Mem} {u : Nat → Int} {n i : Nat} {a : Int} {w : Mem} (ha : a = (ps u n i : Nat)) : FT1 (up (up w 38 5 1) 38 6 a) u n i := ⟨rfl, ha⟩
theorem EFr.fail {nd : Nat} {v w : Mem} {a : Int} (h : EFr nd v w) : EFr nd v (up (up w 38 5 1) 38 6 a) := (h.trans (EFr.u38 (by omega)) (Nat.le_refl _)).trans (EFr.u38 (by omega)) (Nat.le_refl _)
theorem int_nn {X : Nat} : ¬ ((X : Int) < 0) := by omega
theorem HE_step {t : Int} {u : Nat → Int} {n f : Nat} (hE : HE t u n f) (hL : HL t u n f) (hF : HF t u n (f + 1)) : HE t u n (f + 1) := by
  intro l x i sg nb r hl hp d v Q nd hd hg hnd hq
  obtain ⟨d', rfl⟩ : ∃ d', d = d' + 1 := ⟨d - 1, by unfold dN at hd; omega⟩
  by_cases h5 : l = 5
  · subst h5
    refine s_201 ⟨fun _ => ?_, fun c => absurd rfl c⟩
    exact RR.imp (hF x i sg nb r hp d' v Q nd (by unfold dN at *; omega) hg hnd hq) (fun _ _ h => h)
  · have hl5 : l < 5 := by omega
    rw [PE_row hl5] at hp
    have e1 : w32 ((l : Int) + 1) = ((l + 1 : Nat) : Int) := wS hl5 (by decide)
    refine s_201 ⟨fun c => absurd c (by omega), fun _ => ?_⟩
    rw [e1]
    clear e1
    rcases bnd_some hp with ⟨j, h1, rfl⟩ | ⟨e, i1, s1, h1, h2⟩
    · refine hE (l + 1) x i sg nb _ (by omega) h1 d' v _ nd (by unfold dN at *; omega) hg hnd ?_
      intro v' a1 a2
      refine ⟨fun _ => s_201_32 ⟨fun _ => hq v' a1 a2, fun c => absurd rfl c⟩, fun c => absurd (by decide) c⟩
    · refine hE (l + 1) x i sg nb _ (by omega) h1 d' v _ nd (by unfold dN at *; omega) hg hnd ?_
      intro v' nd' X a1 a2 a3 a4 a5 a6 a7 a8 a9
      dsimp only at a1 a8 a9
      refine ⟨fun c => absurd c int_nn, fun _ => ?_⟩
      refine betw hl5 a1.1 (by unfold dN at hd; omega) ?_
      exact hL l e i1 s1 nb r hl5 h2 (d' + 1) v' Q nd nd' X (by unfold dN at *; omega) a1 (by omega) a3 a4 a5 a6 (hq.mono a2 a7 a8 a9)
theorem nodeM_fr {v : Mem} {nd lo : Nat} {k a b c f : Int} (h : lo ≤ nd) : EFr lo v (nodeM v nd k a b c f) := by
  unfold nodeM
  exact ((((((EFr.upc (by omega) h).trans (EFr.upc (by omega) h) (Nat.le_refl _)).trans (EFr.upc (by omega) h) (Nat.le_refl _)).trans (EFr.upc (by omega) h) (Nat.le_refl _)).trans (EFr.upc (by omega) h) (Nat.le_refl _)).trans (EFr.upc (by omega) h) (Nat.le_refl _)).trans (EFr.u38 (by omega)) (Nat.le_refl _)
theorem nodeM_eg {v : Mem} {u : Nat → Int} {n i sg nb nd : Nat} {k a b c f : Int} (h : EG v u n i sg nb nd) : EG (nodeM v nd k a b c f) u n i sg nb (nd + 1) := by
  refine ⟨h.1.same rfl (fun j hj => ?_) h.1.2.2.1 h.1.2.2.2.1 rfl h.1.2.2.2.2.2, h.2⟩
  show (if j = 31 then _ else v 38 j) = v 38 j
  rw [if_neg (by omega)]
theorem nodeM_old {v : Mem} {nd : Nat} {k a b c f : Int} {e j : Nat} (h1 : 57 ≤ e) (h2 : e ≤ 62) (h3 : j < nd) : nodeM v nd k a b c f e j = v e j := (nodeM_fr (Nat.le_refl nd)).1 e j (by omega) (Or.inr (Or.inr h3))
theorem nodeM_57 {v : Mem} {nd : Nat} {k a b c f : Int} : nodeM v nd k a b c f 57 nd = k := by show (if nd = nd then k else _) = k; rw [if_pos rfl]
theorem nodeM_58 {v : Mem} {nd : Nat} {k a b c f : Int} : nodeM v nd k a b c f 58 nd = a := by show (if nd = nd then a else _) = a; rw [if_pos rfl]
theorem nodeM_59 {v : Mem} {nd : Nat} {k a b c f : Int} : nodeM v nd k a b c f 59 nd = b := by show (if nd = nd then b else _) = b; rw [if_pos rfl]
theorem nodeM_60 {v : Mem} {nd : Nat} {k a b c f : Int} : nodeM v nd k a b c f 60 nd = c := by show (if nd = nd then c else _) = c; rw [if_pos rfl]
theorem nodeM_61 {v : Mem} {nd : Nat} {k a b c f : Int} : nodeM v nd k a b c f 61 nd = f := by show (if nd = nd then f else _) = f; rw [if_pos rfl]
theorem nodeM_62 {v : Mem} {nd : Nat} {k a b c f : Int} : nodeM v nd k a b c f 62 nd = -1 := by show (if nd = nd then (-1 : Int) else _) = -1; rw [if_pos rfl]
theorem RN_keep {v v' : Mem} {u : Nat → Int} {n : Nat} {e : Jvm.Term} {lo hi nd : Nat} {x : Int} (h : EFr nd v v') (hh : hi ≤ nd) (q : RN v u n e lo hi x) : RN v' u n e lo hi x := RN_same (SizeOf.sizeOf e + 1) e (Nat.lt_succ_self _) lo hi x (fun c k a1 a2 a3 a4 => h.1 c k (by omega) (Or.inr (Or.inr (by omega)))) q
theorem fst_keep {v v' : Mem} {nd X : Nat} (h : EFr nd v v') (hX : X < nd) : v' 61 X = v 61 X := h.1 61 X (by decide) (Or.inr (Or.inr hX))
theorem sg_eg {v : Mem} {u : Nat → Int} {n i sg nb nd : Nat} (h : EG v u n i sg nb nd) (hs : sg < 40) : EG (up v 38 39 ((sg + 1 : Nat) : Int)) u n i (sg + 1) nb nd := by
  refine ⟨h.1.same rfl (fun j hj => by rw [up_nk (by omega)]) rfl h.1.2.2.2.1 h.1.2.2.2.2.1 h.1.2.2.2.2.2, h.2.1, h.2.2.1, hs⟩
theorem HL_step {t : Int} {u : Nat → Int} {n f : Nat} (hE : HE t u n f) (hL : HL t u n f) : HL t u n (f + 1) := by
  intro l x i sg nb r hl hp d v Q lo nd X hd hg hnd hx hxe hx1 hX hq
  obtain ⟨d', rfl⟩ : ∃ d', d = d' + 1 := ⟨d - 1, by unfold dN at hd; omega⟩
  rw [PE_lp hl] at hp
  by_cases hlv : lvl (kd u n i) = l
  · rw [if_pos hlv] at hp ⊢
    have hlk := lvl_k (k := kd u n i) (by omega)
    have hne := opc_ne (k := kd u n i) (by omega)
    refine s_201_32 ⟨fun c => absurd c hne, fun _ => ?_⟩
    refine RR.deep (d := 0 + 1) (sign_rr hg.1.2.2.1 hg.1.2.2.2.2.2 (by have := hg.2.2.2; omega) (fun hs => ?_) (fun hs => ?_)) (by unfold dN at hd; omega)
    · rw [if_neg (by omega)] at hp
      refine ⟨fun c => absurd c (by decide), fun _ => ?_⟩
      have hg1 := sg_eg hg hs
      refine RR.deep (d := 0 + 8) (nx_es hg1.1 hlk.2 (fun v2 b1 b2 => ?_)) (by unfold dN at hd; omega)
      have hg2 := hg1.next hlk.1 hlk.2 b1 hg.2.2.1 hs
      have fr2 : EFr nd v v2 := (EFr.u38 (by omega)).trans (EFr.s38 b2) (Nat.le_refl _)
      rw [wS hl (by decide)]
      rcases bnd_some hp with ⟨j, h1, rfl⟩ | ⟨y, i1, s1, h1, h2⟩
      · refine hE (l + 1) x (i + 1) (sg + 1) nb _ (by omega) h1 d' v2 _ nd (by unfold dN at *; omega) hg2 (by omega) ?_
        intro v3 a1 a2
        exact ⟨fun _ => hq v3 a1 (fr2.trans a2 (Nat.le_refl _)), fun c => absurd (by decide) c⟩
      · refine hE (l + 1) x (i + 1) (sg + 1) nb _ (by omega) h1 d' v2 _ nd (by unfold dN at *; omega) hg2 (by omega) ?_
        intro v3 nd3 Y a1 a2 a3 a4 a5 a6 a7 a8 a9
        dsimp only at a1 a3 a4 a5 a8 a9
        have i3 := a1.lt
        have fr3 : EFr nd v v3 := fr2.trans a2 (Nat.le_refl _)
        refine ⟨fun c => absurd c int_nn, fun _ => ⟨⟨by omega, by omega⟩, ?_⟩⟩
        rw [Int.toNat_natCast]
        refine node_rr a1.1.2.2.2.2.1 (by omega) ?_
        have fr4 : EFr nd v (nodeM v3 nd3 (opc (kd u n i)) X Y 0 (v3 61 X)) := fr3.trans (nodeM_fr (Nat.le_refl _)) a7
        have g4 := nodeM_eg (k := opc (kd u n i)) (a := X) (b := Y) (c := 0) (f := v3 61 X) a1
        have hx3 : RN v3 u n x lo nd X := RN_keep fr3 (Nat.le_refl _) hx
        have fx3 : v3 61 X = fstT u n x := (fst_keep fr3 hX.2).trans hx1.1
        have fM : EFr nd3 v3 (nodeM v3 nd3 (opc (kd u n i)) X Y 0 (v3 61 X)) := nodeM_fr (Nat.le_refl _)
        have r4 : RN (nodeM v3 nd3 (opc (kd u n i)) X Y 0 (v3 61 X)) u n (nodeB i x y) lo (nd3 + 1) nd3 := by
          unfold nodeB RN
          refine ⟨nd3, X, Y, nd, rfl, hX.1, hX.2, a6.1, a6.2, Nat.lt_succ_self _, nodeM_57, nodeM_58, nodeM_59, RN_keep fM a7 hx3, ?_, RN_keep fM (Nat.le_refl _) a3, ?_⟩
          · rw [fst_keep fM (by omega)]; exact fx3
          · rw [fst_keep fM a6.2]; exact a5.1
        have f4 : nodeM v3 nd3 (opc (kd u n i)) X Y 0 (v3 61 X) 61 nd3 = fstT u n (nodeB i x y) := by
          rw [nodeM_61, fx3]
          rfl
        by_cases hl2 : l = 2
        · rw [if_pos hl2] at h2
          have h2 : okP (nodeB i x y) i1 s1 = some r := h2
          cases h2
          refine ⟨fun _ => s_201_32 ⟨fun _ => ?_, fun c => absurd rfl c⟩, fun c => absurd (by omega) c⟩
          exact hq _ (nd3 + 1) nd3 g4 fr4 r4 trivial ⟨f4, nodeM_62⟩ ⟨by omega, Nat.lt_succ_self _⟩ (by omega) (by dsimp only; omega) (by dsimp only; omega)
        · rw [if_neg hl2] at h2
          refine ⟨fun c => absurd c (by omega), fun _ => ?_⟩
          refine betw hl g4.1 (by unfold dN at hd; omega) ?_
          exact hL l (nodeB i x y) i1 s1 nb r hl h2 (d' + 1) _ Q lo (nd3 + 1) nd3 (by unfold dN at *; omega) g4 (by omega) r4 trivial ⟨f4, nodeM_62⟩ ⟨by omega, Nat.lt_succ_self _⟩ (hq.mono fr4 (by omega) (by omega) (by omega))
    · rw [if_pos hs] at hp
      have hp : erP i = some r := hp
      cases hp
      refine ⟨fun _ => ?_, fun c => absurd rfl c⟩
      exact hq _ ⟨rfl, hg.1.at⟩ (EFr.fail (EFr.u38 (by omega)))
  · rw [if_neg hlv] at hp ⊢
    have hp : okP x i sg = some r := hp
    cases hp
    refine s_201_32 ⟨fun _ => ?_, fun c => absurd rfl c⟩
    exact hq v nd X hg (EFr.refl v) hx hxe hx1 hX (Nat.le_refl _) (by dsimp only; omega) (Nat.le_refl _)
