/-! The grammar of PARAMETERS, FUNCTIONS, the PROGRAM; the reference's PARAMETERS. -/
def isTy (k : Int) : Prop := k = 17 ∨ k = 24
def tyk (k : Int) : Int := if k = 17 then 0 else 1
/-- PARAMETERS from word j on, np being there: (NAME's word, TYPE) each, and the word behind them -/
def PPar (K : Nat → Int) : Nat → Nat → Nat → Option (Except Nat (List (Nat × Int) × Nat))
  | 0, _, _ => none
  | f + 1, j, np => if K j = 2 ∧ np < 6 then (if K (j + 1) = 58 then (if K (j + 2) = 17 ∨ K (j + 2) = 24 then (if K (j + 3) = 44 then (match PPar K f (j + 4) (np + 1) with
      | none => none
      | some (.error e) => some (.error e)
      | some (.ok q) => some (.ok ((j, tyk (K (j + 2))) :: q.1, q.2))) else some (.ok ([(j, tyk (K (j + 2)))], j + 3))) else some (.error (j + 2))) else some (.error (j + 1))) else some (.error j)
/-- a FUNCTION from its ) on: TYPE, BLOCK, the next word, the S so far -/
def PTl (K : Nat → Int) (F i st np : Nat) : Option (Except Nat (Int × Jvm.Term × Nat × Nat)) :=
  if K i = 41 then (if K (i + 1) = 58 then (if K (i + 2) = 17 ∨ K (i + 2) = 24 then (match PS K F 0 (i + 3) st 0 np with
    | none => none
    | some (.error e) => some (.error e)
    | some (.ok b) => some (.ok (tyk (K (i + 2)), b.1, b.2.1, b.2.2.1))) else some (.error (i + 2))) else some (.error (i + 1))) else some (.error i)
/-- a FUNCTION, number fi, from word i on: PARAMETERS, TYPE, BLOCK, the next word, the S so far -/
def PFn (K : Nat → Int) (F i fi st : Nat) : Option (Except Nat (List (Nat × Int) × Int × Jvm.Term × Nat × Nat)) :=
  if K i = 15 ∧ fi < 20 then (if K (i + 1) = 2 then (if K (i + 2) = 40 then (match (if K (i + 3) = 41 then some (.ok ([], i + 3)) else PPar K 8 (i + 3) 0) with
    | none => none
    | some (.error e) => some (.error e)
    | some (.ok q) => match PTl K F q.2 st q.1.length with
      | none => none
      | some (.error e) => some (.error e)
      | some (.ok b) => some (.ok (q.1, b))) else some (.error (i + 2))) else some (.error (i + 1))) else some (.error i)
/-- the FUNCTIONS from word i on, fi being there: of each its first word, PARAMETERS, TYPE, BLOCK -/
def PPr (K : Nat → Int) (F : Nat) : Nat → Nat → Nat → Nat → Option (Except Nat (List (Nat × List (Nat × Int) × Int × Jvm.Term)))
  | 0, _, _, _ => none
  | g + 1, i, fi, st => match PFn K F i fi st with
    | none => none
    | some (.error e) => some (.error e)
    | some (.ok q) => if K q.2.2.2.1 = 0 then some (.ok [(i, q.1, q.2.1, q.2.2.1)]) else (match PPr K F g q.2.2.2.1 (fi + 1) q.2.2.2.2 with
      | none => none
      | some (.error e) => some (.error e)
      | some (.ok l) => some (.ok ((i, q.1, q.2.1, q.2.2.1) :: l)))
theorem m194' {v : Mem} {a : Int} (h : v 38 5 = 1) : m_194 a v = v := by unfold m_194; rw [if_neg (by rw [h]; decide)]
theorem isType_rr {t : Int} {d : Nat} {v : Mem} {Q : Int → Mem → Prop} {u : Nat → Int} {n i sg nb nd : Nat} (h : ES v u n i sg nb nd) (hd : 6 ≤ d) (h1 : kd u n i = 17 ∨ kd u n i = 24 → Q 1 v) (h2 : ¬ (kd u n i = 17 ∨ kd u n i = 24) → Q 0 v) : RR t d 210 [(2, 38)] v Q := by
  obtain ⟨d', rfl⟩ : ∃ d', d = d' + 1 := ⟨d - 1, by omega⟩
  refine s_210 (RR.deep (d := 0 + 5) (is_10 h.2.1 ?_) (by omega))
  rw [h.ck]
  by_cases k1 : kd u n i = 17
  · rw [decide_eq_true k1]
    exact ⟨fun c => absurd c (by decide), fun _ => h1 (Or.inl k1)⟩
  rw [decide_eq_false k1]
  refine ⟨fun _ => RR.deep (d := 0 + 5) (is_11 h.2.1 ?_) (by omega), fun c => absurd rfl c⟩
  rw [h.ck]
  by_cases k2 : kd u n i = 24
  · rw [decide_eq_true k2]
    exact ⟨fun c => absurd c (by decide), fun _ => h1 (Or.inr k2)⟩
  rw [decide_eq_false k2]
  exact ⟨fun _ => h2 (fun h => by rcases h with h | h <;> contradiction), fun c => absurd rfl c⟩
theorem type_rr {t : Int} {d : Nat} {v : Mem} {Q : Int → Mem → Prop} {u : Nat → Int} {n i sg nb nd : Nat} (h : ES v u n i sg nb nd) (hd : 9 ≤ d) (hk : kd u n i = 17 ∨ kd u n i = 24) (hq : ∀ v', ES v' u n (i + 1) sg nb nd → S38 v v' → Q (tyk (kd u n i)) v') : RR t d 211 [(2, 38)] v Q := by
  obtain ⟨d', rfl⟩ : ∃ d', d = d' + 1 := ⟨d - 1, by omega⟩
  refine s_211 (RR.deep (d := 0 + 5) (is_10 h.2.1 ?_) (by omega))
  rw [h.ck]
  by_cases k1 : kd u n i = 17
  · rw [decide_eq_true k1]
    refine ⟨fun c => absurd c (by decide), fun _ => RR.deep (d := 0 + 8) (nx_es h (by omega) (fun v' b1 b2 => ?_)) (by omega)⟩
    have := hq v' b1 b2
    unfold tyk at this
    rw [if_pos k1] at this
    exact this
  · rw [decide_eq_false k1]
    refine ⟨fun _ => RR.deep (d := 0 + 8) (nx_es h (by omega) (fun v' b1 b2 => ?_)) (by omega), fun c => absurd rfl c⟩
    have := hq v' b1 b2
    unfold tyk at this
    rw [if_neg k1] at this
    exact this
/-- what reading a PARAMETER leaves alone -/
def PFr (fi np : Nat) (v v' : Mem) : Prop := (∀ c x, c ≠ 38 → ¬ (c = 43 ∧ x = fi) → ¬ (46 ≤ c ∧ c ≤ 48 ∧ x = 6 * fi + np) → v' c x = v c x) ∧ (∀ k, (k < 5 ∨ k = 7 ∨ (12 < k ∧ k ≠ 31 ∧ k ≠ 38 ∧ k ≠ 39)) → v' 38 k = v 38 k) ∧ NNr v v'
theorem PFr.refl {fi np : Nat} (v : Mem) : PFr fi np v v := ⟨fun _ _ _ _ _ => rfl, fun _ _ => rfl, NNr.refl v⟩
theorem PFr.trans {fi np : Nat} {v v' v'' : Mem} (h : PFr fi np v v') (h' : PFr fi np v' v'') : PFr fi np v v'' := ⟨fun c x a b e => (h'.1 c x a b e).trans (h.1 c x a b e), fun k hk => (h'.2.1 k hk).trans (h.2.1 k hk), h.2.2.trans h'.2.2⟩
theorem PFr.s38 {fi np : Nat} {v v' : Mem} (h : S38 v v') : PFr fi np v v' := ⟨fun c x hc _ _ => by rw [h.1 c hc], fun k hk => h.2 k (by omega), NNr.eq (fun k h1 h2 => h.2 k (by omega))⟩
theorem PFr.u38 {fi np : Nat} {v : Mem} {k : Nat} {a : Int} (hk : 5 ≤ k ∧ k ≤ 12 ∧ k ≠ 7) (ha : 38 ≤ k → 0 ≤ a := by omega) (h6 : (k = 5 → a ≠ 0) ∧ (k = 6 → v 38 5 ≠ 0) := by first | omega | exact ⟨fun h => absurd h (by decide), fun _ => by show ¬ (1 : Int) = 0; decide⟩) : PFr fi np v (up v 38 k a) := ⟨fun c x hc _ _ => by rw [up_ne hc], fun j hj => by rw [up_nk (by omega)], NNr.up ha h6⟩
theorem PFr.upc {fi np : Nat} {v : Mem} {c x : Nat} {a : Int} (h : (c = 43 ∧ x = fi) ∨ (46 ≤ c ∧ c ≤ 48 ∧ x = 6 * fi + np)) : PFr fi np v (up v c x a) := ⟨fun c' x' _ h1 h2 => upc_ne (by omega), fun j _ => upc_ne (by omega), NNr.eq (fun j _ _ => upc_ne (by omega))⟩
theorem SG.pf {v v' : Mem} {u : Nat → Int} {n i st dp sc nd fi np sg nb : Nat} (h : SG v u n i st dp sc nd) {j : Nat} (he : ES v' u n j sg nb nd) (hj : j ≤ ps u n j) (hij : i ≤ j) (hf : PFr fi np v v') : SG v' u n j st dp sc nd :=
  ⟨⟨sg, nb, he⟩, hj, Nat.le_trans h.2.2.1 hij, by rw [hf.2.1 22 (by omega)]; exact h.2.2.2.1, by rw [hf.2.1 40 (by omega)]; exact h.2.2.2.2.1, by rw [hf.2.1 41 (by omega)]; exact h.2.2.2.2.2⟩
theorem par_rr {t : Int} {d : Nat} {v : Mem} {Q : Int → Mem → Prop} {u : Nat → Int} {n j st dp sc nd fi np : Nat} (hd : 12 ≤ d) (hg : SG v u n j st dp sc nd) (hfi : fi < 20) (hnp : v 43 fi = np) (hnp6 : np ≤ 6)
    (hq : if kd u n j = 2 ∧ np < 6 then (if kd u n (j + 1) = 58 then (if kd u n (j + 2) = 17 ∨ kd u n (j + 2) = 24 then
        (∀ v', SG v' u n (j + 3) st dp sc nd → PFr fi np v v' → v' 43 fi = ((np + 1 : Nat) : Int) → v' 46 (6 * fi + np) = ps u n j → v' 47 (6 * fi + np) = ln u n j → v' 48 (6 * fi + np) = tyk (kd u n (j + 2)) → Q 1 v')
        else ∀ v', FT1 v' u n (j + 2) → PFr fi np v v' → Q 0 v') else ∀ v', FT1 v' u n (j + 1) → PFr fi np v v' → Q 0 v') else ∀ v', FT1 v' u n j → (∀ m, PFr fi m v v') → Q 0 v') : RR t d 213 [(2, 38), (0, (fi : Int))] v Q := by
  obtain ⟨d', rfl⟩ : ∃ d', d = d' + 1 := ⟨d - 1, by omega⟩
  obtain ⟨sg, nb, he⟩ := hg.1
  have gd1 : (0 : Int) ≤ (fi : Int) ∧ (fi : Int) < 20 := ⟨by omega, by omega⟩
  have fail : ¬ (kd u n j = 2 ∧ np < 6) → Q 0 (m_194 (v 38 10) v) := by
    intro h
    rw [if_neg h] at hq
    rw [m194 he.2.2.2.2.2]
    exact hq _ ⟨rfl, he.at⟩ (fun m => (PFr.u38 (by omega)).trans (PFr.u38 (by omega)))
  refine s_213 ?_
  rw [he.kind, Int.toNat_natCast, hnp]
  refine ⟨fun c => ⟨gd1, fun c6 => fail (by omega), fun c6 => ?_⟩, fun c => fail (fun h => c ((rk_c (kd_k u n j) (by decide)).mpr h.1))⟩
  have hk2 : kd u n j = 2 := (rk_c (kd_k u n j) (by decide)).mp c
  have hn6 : np < 6 := by omega
  rw [if_pos ⟨hk2, hn6⟩] at hq
  rw [show w32 (w32 (6 * (fi : Int)) + (np : Int)) = ((6 * fi + np : Nat) : Int) by
    rw [w32_id (a := 6 * (fi : Int)) (by omega) (by omega)]
    exact wNat (by omega) (by omega)]
  rw [Int.toNat_natCast, he.len, he.at]
  have gd2 : (0 : Int) ≤ ((6 * fi + np : Nat) : Int) ∧ ((6 * fi + np : Nat) : Int) < 120 := ⟨by omega, by omega⟩
  refine ⟨gd1, gd2, gd2, ?_⟩
  have he1 : ES (up (up v 46 (6 * fi + np) (ps u n j : Nat)) 47 (6 * fi + np) (ln u n j)) u n j sg nb nd := he.same rfl (fun k _ => rfl) he.2.2.1 he.2.2.2.1 he.2.2.2.2.1 he.2.2.2.2.2
  have f1 : PFr fi np v (up (up v 46 (6 * fi + np) (ps u n j : Nat)) 47 (6 * fi + np) (ln u n j)) := (PFr.upc (by omega)).trans (PFr.upc (by omega))
  have hg1 : SG (up (up v 46 (6 * fi + np) (ps u n j : Nat)) 47 (6 * fi + np) (ln u n j)) u n j st dp sc nd := hg.pf he1 hg.2.1 (Nat.le_refl _) f1
  have b46 : up (up v 46 (6 * fi + np) (ps u n j : Nat)) 47 (6 * fi + np) (ln u n j) 46 (6 * fi + np) = (ps u n j : Nat) := by rw [upc_ne (by omega)]; exact up_k
  have b47 : up (up v 46 (6 * fi + np) (ps u n j : Nat)) 47 (6 * fi + np) (ln u n j) 47 (6 * fi + np) = ln u n j := up_k
  have b43 : up (up v 46 (6 * fi + np) (ps u n j : Nat)) 47 (6 * fi + np) (ln u n j) 43 fi = np := by rw [upc_ne (by omega), upc_ne (by omega)]; exact hnp
  generalize up (up v 46 (6 * fi + np) (ps u n j : Nat)) 47 (6 * fi + np) (ln u n j) = w at *
  refine RR.deep (d := 0 + 8) (nx_es he1 (by omega) (fun v3 c1 c2 => ?_)) (by omega)
  have f3 : PFr fi np v v3 := f1.trans (PFr.s38 c2)
  have hg3 := hg1.next he1 (by omega) (by omega) c1 (Nat.le_refl _) (st' := st) (dp' := dp) (sc' := sc) (by rw [c2.2 22 (by omega)]; exact hg1.2.2.2.1) (by rw [c2.2 40 (by omega)]; exact hg1.2.2.2.2.1) (by rw [c2.2 41 (by omega)]; exact hg1.2.2.2.2.2)
  have pf_of : ∀ {a b : Mem}, (∀ m, EFr m a b) → PFr fi np a b := fun h => ⟨fun c x hc _ _ => (h (x + 1)).1 c x hc (by omega), fun k hk => (h 0).2.1 k (by omega), (h 0).2.2⟩
  refine RR.deep (d := 0 + 9) (take_9 c1 (fun hk v4 d1 d2 => ?_) (fun hk v4 d1 d2 => ?_)) (by omega)
  · rw [if_pos hk] at hq
    refine ⟨fun c => absurd c (by decide), fun _ => ?_⟩
    have f4 : PFr fi np v v4 := f3.trans (PFr.s38 d2)
    have hg4 := hg3.next c1 (by omega) (by omega) d1 (Nat.le_refl _) (st' := st) (dp' := dp) (sc' := sc) (by rw [d2.2 22 (by omega)]; exact hg3.2.2.2.1) (by rw [d2.2 40 (by omega)]; exact hg3.2.2.2.2.1) (by rw [d2.2 41 (by omega)]; exact hg3.2.2.2.2.2)
    refine isType_rr d1 (by omega) (fun hty => ?_) (fun hty => ?_)
    · rw [if_pos hty] at hq
      refine ⟨fun c => absurd c (by decide), fun _ => type_rr d1 (by omega) hty (fun v8 g1 g2 => ?_)⟩
      have hg8 := hg4.next d1 (by omega) (by omega) g1 (Nat.le_refl _) (st' := st) (dp' := dp) (sc' := sc) (by rw [g2.2 22 (by omega)]; exact hg4.2.2.2.1) (by rw [g2.2 40 (by omega)]; exact hg4.2.2.2.2.1) (by rw [g2.2 41 (by omega)]; exact hg4.2.2.2.2.2)
      have e8 : ∀ c x, c ≠ 38 → v8 c x = w c x := fun c x h => by rw [g2.1 c h, d2.1 c h, c2.1 c h]
      rw [e8 43 fi (by decide), b43, wS (show np < 7 by omega) (by decide)]
      refine ⟨gd2, gd1, gd1, ?_⟩
      have f8 : PFr fi np v (up (up v8 48 (6 * fi + np) (tyk (kd u n (j + 1 + 1)))) 43 fi ((np + 1 : Nat) : Int)) := ((f4.trans (PFr.s38 g2)).trans (PFr.upc (by omega))).trans (PFr.upc (by omega))
      refine hq _ (hg8.upd rfl (fun k _ => rfl) hg8.2.2.2.1 hg8.2.2.2.2.1 hg8.2.2.2.2.2) f8 up_k ?_ ?_ ?_
      · rw [upc_ne (by omega), upc_ne (by omega), e8 46 _ (by decide)]; exact b46
      · rw [upc_ne (by omega), upc_ne (by omega), e8 47 _ (by decide)]; exact b47
      · rw [upc_ne (by omega)]; exact up_k
    · rw [if_neg hty] at hq
      refine ⟨fun _ => ?_, fun c => absurd rfl c⟩
      rw [m194 d1.2.2.2.2.2]
      exact hq _ ⟨rfl, d1.at⟩ ((f4.trans (PFr.u38 (by omega))).trans (PFr.u38 (by omega)))
  · rw [if_neg hk] at hq
    refine ⟨fun _ => ?_, fun c => absurd rfl c⟩
    rw [m194' d1.1]
    exact hq _ d1 (f3.trans (pf_of d2))
