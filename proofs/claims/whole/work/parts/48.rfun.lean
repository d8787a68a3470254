/-! The reference reads a FUNCTION. -/
def FFr (fi st nd : Nat) (v v' : Mem) : Prop := (∀ c x, c ≠ 38 → (c < 41 ∨ 62 < c ∨ c = 56 ∨ (41 ≤ c ∧ c ≤ 45 ∧ x < fi) ∨ (46 ≤ c ∧ c ≤ 48 ∧ x < 6 * fi) ∨ (49 ≤ c ∧ c < 56 ∧ x < st) ∨ (57 ≤ c ∧ x < nd)) → v' c x = v c x) ∧ (∀ k, (k < 5 ∨ k = 7 ∨ (13 < k ∧ k < 22) ∨ (22 < k ∧ k < 31) ∨ (31 < k ∧ k < 38) ∨ 41 < k) → v' 38 k = v 38 k) ∧ NNr v v'
theorem FFr.refl {fi st nd : Nat} (v : Mem) : FFr fi st nd v v := ⟨fun _ _ _ _ => rfl, fun _ _ => rfl, NNr.refl v⟩
theorem FFr.trans {fi st nd fi' st' nd' : Nat} {v v' v'' : Mem} (h : FFr fi st nd v v') (h' : FFr fi' st' nd' v' v'') (h1 : fi ≤ fi') (h2 : st ≤ st') (h3 : nd ≤ nd') : FFr fi st nd v v'' := ⟨fun c x a b => (h'.1 c x a (by omega)).trans (h.1 c x a b), fun k hk => (h'.2.1 k hk).trans (h.2.1 k hk), h.2.2.trans h'.2.2⟩
theorem FFr.gfr {fi st nd : Nat} {v v' : Mem} (h : GFr fi st nd v v') : FFr fi st nd v v' := ⟨fun c x hc hx => h.1 c x hc (by omega), fun k hk => h.2.1 k (by omega), h.2.2⟩
theorem FFr.s38 {fi st nd : Nat} {v v' : Mem} (h : S38 v v') : FFr fi st nd v v' := FFr.gfr (GFr.tfr (TFr.s38 h))
theorem FFr.u38 {fi st nd : Nat} {v : Mem} {k : Nat} {a : Int} (hk : k = 5 ∨ k = 6 ∨ (8 ≤ k ∧ k ≤ 13) ∨ k = 22 ∨ k = 31 ∨ (38 ≤ k ∧ k ≤ 41)) (ha : 38 ≤ k → 0 ≤ a := by omega) (h6 : (k = 5 → a ≠ 0) ∧ (k = 6 → v 38 5 ≠ 0) := by first | omega | exact ⟨fun h => absurd h (by decide), fun _ => by show ¬ (1 : Int) = 0; decide⟩) : FFr fi st nd v (up v 38 k a) := ⟨fun c x hc _ => by rw [up_ne hc], fun j hj => by rw [up_nk (by omega)], NNr.up ha h6⟩
theorem FFr.upc {fi st nd : Nat} {v : Mem} {c : Nat} {a : Int} (h : 41 ≤ c ∧ c ≤ 45) : FFr fi st nd v (up v c fi a) := ⟨fun c' x' _ h1 => upc_ne (by omega), fun j _ => upc_ne (by omega), NNr.eq (fun j _ _ => upc_ne (by omega))⟩
/-- FUNCTION fi, S st .. st' - 1 and nodes nd .. nd' - 1 stand for a FUNCTION that begins at word i -/
def RF1 (v : Mem) (u : Nat → Int) (n i : Nat) (pl : List (Nat × Int)) (ty : Int) (b : Jvm.Term) (fi st st' nd nd' : Nat) : Prop := v 41 fi = ps u n (i + 1) ∧ v 42 fi = ln u n (i + 1) ∧ v 43 fi = (pl.length : Nat) ∧ v 44 fi = ty ∧ RPs v u n fi 0 pl ∧ RS v u n b st st' nd nd' (v 45 fi)
def PoF (Q : Int → Mem → Prop) (v : Mem) (u : Nat → Int) (n fi st nd i : Nat) (r : Except Nat (List (Nat × Int) × Int × Jvm.Term × Nat × Nat)) : Prop := match r with
  | .error j => ∀ v', FT1 v' u n j → FFr fi st nd v v' → Q 0 v'
  | .ok q => ∀ (v' : Mem) (nd' dp' sc' : Nat), SG v' u n q.2.2.2.1 q.2.2.2.2 dp' sc' nd' → v' 38 13 = ((fi + 1 : Nat) : Int) → FFr fi st nd v v' → RF1 v' u n i q.1 q.2.1 q.2.2.1 fi st q.2.2.2.2 nd nd' → nd ≤ nd' → st ≤ q.2.2.2.2 → q.2.2.2.2 ≤ 300 → i ≤ q.2.2.2.1 → nd' + i ≤ nd + q.2.2.2.1 → Q 1 v'
theorem fn_rr {t : Int} {F : Nat} {d : Nat} {v : Mem} {Q : Int → Mem → Prop} {u : Nat → Int} {n i st dp sc nd fi : Nat} {r : Except Nat (List (Nat × Int) × Int × Jvm.Term × Nat × Nat)} (hp : PFn (kd u n) F i fi st = some r) (hd : 561 ≤ d) (hg : SG v u n i st dp sc nd) (h13 : v 38 13 = fi) (hf20 : fi ≤ 20) (hst : st ≤ 300) (hq : PoF Q v u n fi st nd i r) : RR t d 212 [(2, 38)] v Q := by
  obtain ⟨d', rfl⟩ : ∃ d', d = d' + 1 := ⟨d - 1, by omega⟩
  obtain ⟨sg, nb, he⟩ := hg.1
  unfold PFn at hp
  have fail : ¬ (kd u n i = 15 ∧ fi < 20) → Q 0 (m_194 (v 38 10) v) := by
    intro h
    rw [if_neg h] at hp
    have hp : some (Except.error i) = some r := hp
    cases hp
    rw [m194 he.2.2.2.2.2]
    exact hq _ ⟨rfl, he.at⟩ ((FFr.u38 (by omega)).trans (FFr.u38 (by omega)) (Nat.le_refl _) (Nat.le_refl _) (Nat.le_refl _))
  refine s_212 (RR.deep (d := 0 + 5) (is_6 he.2.1 ?_) (by omega))
  rw [he.ck, h13]
  by_cases k15 : kd u n i = 15
  · rw [decide_eq_true k15]
    refine ⟨fun c => absurd c (by decide), fun _ => ⟨fun c => fail (fun h => by omega), fun c20 => ?_⟩⟩
    have hfi : fi < 20 := by omega
    have gd1 : (0 : Int) ≤ (fi : Int) ∧ (fi : Int) < 20 := ⟨by omega, by omega⟩
    rw [if_pos ⟨k15, hfi⟩] at hp
    rw [wS hfi (by decide), Int.toNat_natCast]
    have hg1 : SG (up v 38 13 ((fi + 1 : Nat) : Int)) u n i st dp sc nd := hg.upd rfl (fun k hk => by rw [up_nk (by omega)]) hg.2.2.2.1 hg.2.2.2.2.1 hg.2.2.2.2.2
    have f1 : FFr fi st nd v (up v 38 13 ((fi + 1 : Nat) : Int)) := FFr.u38 (by omega)
    have b13 : up v 38 13 ((fi + 1 : Nat) : Int) 38 13 = ((fi + 1 : Nat) : Int) := up_k
    generalize up v 38 13 ((fi + 1 : Nat) : Int) = w at *
    obtain ⟨sg1, nb1, he1⟩ := hg1.1
    refine RR.deep (d := 0 + 8) (nx_es he1 (by omega) (fun v4 c1 c2 => ?_)) (by omega)
    have hg4 := hg1.next he1 (by omega) (by omega) c1 (Nat.le_refl _) (st' := st) (dp' := dp) (sc' := sc) (by rw [c2.2 22 (by omega)]; exact hg1.2.2.2.1) (by rw [c2.2 40 (by omega)]; exact hg1.2.2.2.2.1) (by rw [c2.2 41 (by omega)]; exact hg1.2.2.2.2.2)
    have f4 : FFr fi st nd v v4 := f1.trans (FFr.s38 c2) (Nat.le_refl _) (Nat.le_refl _) (Nat.le_refl _)
    have d13 : v4 38 13 = ((fi + 1 : Nat) : Int) := by rw [c2.2 13 (by omega)]; exact b13
    rw [c1.kind, c1.len, c1.at]
    refine ⟨fun c => ⟨gd1, gd1, gd1, ?_⟩, fun c => ?_⟩
    · have k2 : kd u n (i + 1) = 2 := (rk_c (kd_k u n (i + 1)) (by decide)).mp c
      rw [if_pos k2] at hp
      have he5 : ES (up (up (up v4 41 fi (ps u n (i + 1) : Nat)) 42 fi (ln u n (i + 1))) 43 fi 0) u n (i + 1) sg1 nb1 nd := c1.same rfl (fun k _ => rfl) c1.2.2.1 c1.2.2.2.1 c1.2.2.2.2.1 c1.2.2.2.2.2
      have hg5 : SG (up (up (up v4 41 fi (ps u n (i + 1) : Nat)) 42 fi (ln u n (i + 1))) 43 fi 0) u n (i + 1) st dp sc nd := hg4.upd rfl (fun k _ => rfl) hg4.2.2.2.1 hg4.2.2.2.2.1 hg4.2.2.2.2.2
      have f5 : FFr fi st nd v (up (up (up v4 41 fi (ps u n (i + 1) : Nat)) 42 fi (ln u n (i + 1))) 43 fi 0) := ((f4.trans (FFr.upc (by omega)) (Nat.le_refl _) (Nat.le_refl _) (Nat.le_refl _)).trans (FFr.upc (by omega)) (Nat.le_refl _) (Nat.le_refl _) (Nat.le_refl _)).trans (FFr.upc (by omega)) (Nat.le_refl _) (Nat.le_refl _) (Nat.le_refl _)
      have b41 : up (up (up v4 41 fi (ps u n (i + 1) : Nat)) 42 fi (ln u n (i + 1))) 43 fi 0 41 fi = (ps u n (i + 1) : Nat) := by rw [upc_ne (by omega), upc_ne (by omega)]; exact up_k
      have b42 : up (up (up v4 41 fi (ps u n (i + 1) : Nat)) 42 fi (ln u n (i + 1))) 43 fi 0 42 fi = ln u n (i + 1) := by rw [upc_ne (by omega)]; exact up_k
      have b43 : up (up (up v4 41 fi (ps u n (i + 1) : Nat)) 42 fi (ln u n (i + 1))) 43 fi 0 43 fi = 0 := up_k
      have e13 : up (up (up v4 41 fi (ps u n (i + 1) : Nat)) 42 fi (ln u n (i + 1))) 43 fi 0 38 13 = ((fi + 1 : Nat) : Int) := by rw [upc_ne (by omega), upc_ne (by omega), upc_ne (by omega)]; exact d13
      generalize up (up (up v4 41 fi (ps u n (i + 1) : Nat)) 42 fi (ln u n (i + 1))) 43 fi 0 = z at *
      refine RR.deep (d := 0 + 8) (nx_es he5 (by omega) (fun v6 d1 d2 => ?_)) (by omega)
      have hg6 := hg5.next he5 (by omega) (by omega) d1 (Nat.le_refl _) (st' := st) (dp' := dp) (sc' := sc) (by rw [d2.2 22 (by omega)]; exact hg5.2.2.2.1) (by rw [d2.2 40 (by omega)]; exact hg5.2.2.2.2.1) (by rw [d2.2 41 (by omega)]; exact hg5.2.2.2.2.2)
      have f6 : FFr fi st nd v v6 := f5.trans (FFr.s38 d2) (Nat.le_refl _) (Nat.le_refl _) (Nat.le_refl _)
      refine RR.deep (d := 0 + 9) (take_7 d1 (fun k40 v7 g1 g2 => ?_) (fun k40 v7 g1 g2 => ?_)) (by omega)
      · rw [if_pos k40] at hp
        refine ⟨fun c => absurd c (by decide), fun _ => ?_⟩
        have hg7 := hg6.next d1 (by omega) (by omega) g1 (Nat.le_refl _) (st' := st) (dp' := dp) (sc' := sc) (by rw [g2.2 22 (by omega)]; exact hg6.2.2.2.1) (by rw [g2.2 40 (by omega)]; exact hg6.2.2.2.2.1) (by rw [g2.2 41 (by omega)]; exact hg6.2.2.2.2.2)
        have f7 : FFr fi st nd v v7 := f6.trans (FFr.s38 g2) (Nat.le_refl _) (Nat.le_refl _) (Nat.le_refl _)
        have e7 : ∀ c x, c ≠ 38 → v7 c x = z c x := fun c x h => by rw [g2.1 c h, d2.1 c h]
        have q13 : v7 38 13 = ((fi + 1 : Nat) : Int) := by rw [g2.2 13 (by omega), d2.2 13 (by omega)]; exact e13
        have q43 : v7 43 fi = ((0 : Nat) : Int) := by rw [e7 43 fi (by decide)]; exact b43
        -- what a FUNCTION's end gives
        have fin : ∀ (l : List (Nat × Int)) (i3 : Nat) (r' : Except Nat (Int × Jvm.Term × Nat × Nat)), (match (some r' : Option (Except Nat (Int × Jvm.Term × Nat × Nat))) with
            | none => none
            | some (.error e) => some (.error e)
            | some (.ok b) => some (Except.ok (l, b))) = some r → PoG Q v7 u n fi st nd 0 l (i + 3) r' := by
          intro l i3 r' hr
          cases r' with
          | error e =>
            have hr : some (Except.error e) = some r := hr
            cases hr
            exact fun v' a1 a2 => hq v' a1 (f7.trans (FFr.gfr a2) (Nat.le_refl _) (Nat.le_refl _) (Nat.le_refl _))
          | ok q =>
            have hr : some (Except.ok (l, q)) = some r := hr
            cases hr
            intro v' nd' a1 a2 a3 a4 a5 a6 a7 a8 a9 a10 a11 a12
            refine hq v' nd' _ _ a1 (by rw [a2.2.1 13 (by omega)]; exact q13) (f7.trans (FFr.gfr a2) (Nat.le_refl _) (Nat.le_refl _) (Nat.le_refl _)) ⟨?_, ?_, ?_, a6, a4, a7⟩ a8 a9 a10 (by dsimp only; omega) (by dsimp only; omega)
            · rw [a2.1 41 fi (by decide) (by omega), e7 41 fi (by decide)]; exact b41
            · rw [a2.1 42 fi (by decide) (by omega), e7 42 fi (by decide)]; exact b42
            · rw [Nat.zero_add] at a3; exact a3
        obtain ⟨sg7, nb7, he7⟩ := hg7.1
        refine s_212_112 (RR.deep (d := 0 + 5) (is_8 he7.2.1 ?_) (by omega))
        rw [he7.ck, Int.toNat_natCast, q43]
        by_cases k41 : kd u n (i + 1 + 1 + 1) = 41
        · rw [decide_eq_true k41]
          rw [if_pos k41] at hp
          refine ⟨fun c => absurd c (by decide), fun _ => ⟨gd1, fun c => absurd c (by decide), fun _ => ?_⟩⟩
          dsimp only at hp
          cases hT : PTl (kd u n) F (i + 3) st 0 with
          | none => rw [show ([] : List (Nat × Int)).length = 0 from rfl, hT] at hp; cases hp
          | some r' =>
            rw [show ([] : List (Nat × Int)).length = 0 from rfl, hT] at hp
            refine tail_rr (F := F) hT (by omega) hg7 hst hfi q43 (by omega) ?_
            have hfin := fin [] (i + 3) r' hp
            cases r' with
            | error e => exact fun v' a1 a2 => hfin v' a1 (GFr.tfr a2)
            | ok q => exact fun v' nd' a1 a2 a3 a4 a5 a6 a7 a8 a9 => hfin v' nd' a1 (GFr.tfr a2) (by rw [a2.1 43 fi (by decide) (by omega)]; exact q43) trivial (fun c k _ _ hk => absurd hk (Nat.not_lt_zero k)) a3 a4 a5 a6 a7 a8 a9
        · rw [decide_eq_false k41]
          rw [if_neg k41] at hp
          refine ⟨fun _ => ?_, fun c => absurd rfl c⟩
          cases hP : PPar (kd u n) 8 (i + 3) 0 with
          | none => rw [hP] at hp; cases hp
          | some rp =>
            rw [hP] at hp
            refine pars_rr (F := F) (by omega) hst hfi 8 (i + 3) 0 rp v7 dp sc hP hg7 q43 (by omega) ?_
            cases rp with
            | error e =>
              have hp : some (Except.error e) = some r := hp
              cases hp
              exact fun v' a1 a2 => hq v' a1 (f7.trans (FFr.gfr a2) (Nat.le_refl _) (Nat.le_refl _) (Nat.le_refl _))
            | ok q =>
              dsimp only at hp ⊢
              cases hT : PTl (kd u n) F q.2 st q.1.length with
              | none => rw [hT] at hp; cases hp
              | some r' =>
                rw [hT] at hp
                exact ⟨r', by rw [Nat.zero_add]; exact hT, fin q.1 q.2 r' hp⟩
      · rw [if_neg k40] at hp
        have hp : some (Except.error (i + 2)) = some r := hp
        cases hp
        exact ⟨fun _ => hq v7 g1 (f6.trans (FFr.gfr (GFr.tfr (TFr.sfr (SFr.efr (g2 nd))))) (Nat.le_refl _) (Nat.le_refl _) (Nat.le_refl _)), fun c => absurd rfl c⟩
    · have k2 : ¬ kd u n (i + 1) = 2 := fun h => c ((rk_c (kd_k u n (i + 1)) (by decide)).mpr h)
      rw [if_neg k2] at hp
      have hp : some (Except.error (i + 1)) = some r := hp
      cases hp
      rw [m194 c1.2.2.2.2.2]
      exact hq _ ⟨rfl, rfl⟩ ((f4.trans (FFr.u38 (by omega)) (Nat.le_refl _) (Nat.le_refl _) (Nat.le_refl _)).trans (FFr.u38 (by omega)) (Nat.le_refl _) (Nat.le_refl _) (Nat.le_refl _))
  · rw [decide_eq_false k15]
    exact ⟨fun _ => fail (fun h => k15 h.1), fun c => absurd rfl c⟩
