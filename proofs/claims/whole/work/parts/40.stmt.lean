/-! The grammar of BLOCK and S, purely: a tree, the next word, the S so far, the locals in scope; or the word at fault; none: out of fuel.
An S is elem (arg i) (sub e (sub b c)): i its first word, e its E, b its BLOCK (null: none or empty), c its second BLOCK (thrown: there is no else); a BLOCK is null or sub s (the rest). -/
abbrev QR : Type := Option (Except Nat (Jvm.Term × Nat × Nat × Nat))
def okQ (t : Jvm.Term) (i st sc : Nat) : QR := some (.ok (t, i, st, sc))
def erQ (j : Nat) : QR := some (.error j)
def bndE (r : PR) (k : Jvm.Term → Nat → QR) : QR := match r with
  | none => none
  | some (.error j) => erQ j
  | some (.ok q) => k q.1 q.2.1
def bndS (r : QR) (k : Jvm.Term → Nat → Nat → Nat → QR) : QR := match r with
  | none => none
  | some (.error j) => erQ j
  | some (.ok q) => k q.1 q.2.1 q.2.2.1 q.2.2.2
def stm (i : Nat) (e b c : Jvm.Term) : Jvm.Term := .elem (.arg i) (.sub e (.sub b c))
/-- the reference's number of an S by its first word's kind; 0: no S begins so -/
def skd (k : Int) : Int := if k = 19 then 1 else if k = 2 then 2 else if k = 16 then 3 else if k = 25 then 4 else if k = 22 then 5 else if k = 21 then 6 else if k = 12 then 7 else 0
/-- modes: 0 a BLOCK; 1 the rest of a BLOCK; else an S. dp: how many S there are around -/
def PS (K : Nat → Int) : Nat → Nat → Nat → Nat → Nat → Nat → QR
  | 0, _, _, _, _, _ => none
  | f + 1, m, i, st, dp, sc =>
    if m = 0 then (if K i = 123 then bndS (PS K f 1 (i + 1) st dp sc) (fun l i1 st1 _ => okQ l i1 st1 sc) else erQ i)
    else if m = 1 then (if K i = 125 then okQ .null (i + 1) st sc else bndS (PS K f 2 i st dp sc) (fun s i1 st1 sc1 => bndS (PS K f 1 i1 st1 dp sc1) (fun l i2 st2 sc2 => okQ (.sub s l) i2 st2 sc2)))
    else if skd (K i) = 0 ∨ 300 ≤ st ∨ 8 ≤ dp then erQ i
    else if K i = 19 then (if K (i + 1) = 2 ∧ sc < 30 then (if K (i + 2) = 61 then bndE (PE K f 0 .null (i + 3) 0 0) (fun e i1 => if K i1 = 59 then okQ (stm i e .null .thrown) (i1 + 1) (st + 1) (sc + 1) else erQ i1) else erQ (i + 2)) else erQ (i + 1))
    else if K i = 2 then (if K (i + 1) = 61 then bndE (PE K f 0 .null (i + 2) 0 0) (fun e i1 => if K i1 = 59 then okQ (stm i e .null .thrown) (i1 + 1) (st + 1) sc else erQ i1) else erQ (i + 1))
    else bndE (PE K f 0 .null (i + 1) 0 0) (fun e i1 =>
      if K i = 16 ∨ K i = 25 then bndS (PS K f 0 i1 (st + 1) (dp + 1) sc) (fun b i2 st2 _ => if K i = 16 ∧ K i2 = 13 then bndS (PS K f 0 (i2 + 1) st2 (dp + 1) sc) (fun c i3 st3 _ => okQ (stm i e b c) i3 st3 sc) else okQ (stm i e b .thrown) i2 st2 sc)
      else if K i1 = 59 then okQ (stm i e .null .thrown) (i1 + 1) (st + 1) sc else erQ i1)
theorem PS_0 {K : Nat → Int} {f i st dp sc : Nat} : PS K (f + 1) 0 i st dp sc = (if K i = 123 then bndS (PS K f 1 (i + 1) st dp sc) (fun l i1 st1 _ => okQ l i1 st1 sc) else erQ i) := rfl
theorem PS_1 {K : Nat → Int} {f i st dp sc : Nat} : PS K (f + 1) 1 i st dp sc = (if K i = 125 then okQ .null (i + 1) st sc else bndS (PS K f 2 i st dp sc) (fun s i1 st1 sc1 => bndS (PS K f 1 i1 st1 dp sc1) (fun l i2 st2 sc2 => okQ (.sub s l) i2 st2 sc2))) := rfl
theorem PS_2 {K : Nat → Int} {f i st dp sc : Nat} : PS K (f + 1) 2 i st dp sc = (if skd (K i) = 0 ∨ 300 ≤ st ∨ 8 ≤ dp then erQ i
    else if K i = 19 then (if K (i + 1) = 2 ∧ sc < 30 then (if K (i + 2) = 61 then bndE (PE K f 0 .null (i + 3) 0 0) (fun e i1 => if K i1 = 59 then okQ (stm i e .null .thrown) (i1 + 1) (st + 1) (sc + 1) else erQ i1) else erQ (i + 2)) else erQ (i + 1))
    else if K i = 2 then (if K (i + 1) = 61 then bndE (PE K f 0 .null (i + 2) 0 0) (fun e i1 => if K i1 = 59 then okQ (stm i e .null .thrown) (i1 + 1) (st + 1) sc else erQ i1) else erQ (i + 1))
    else bndE (PE K f 0 .null (i + 1) 0 0) (fun e i1 =>
      if K i = 16 ∨ K i = 25 then bndS (PS K f 0 i1 (st + 1) (dp + 1) sc) (fun b i2 st2 _ => if K i = 16 ∧ K i2 = 13 then bndS (PS K f 0 (i2 + 1) st2 (dp + 1) sc) (fun c i3 st3 _ => okQ (stm i e b c) i3 st3 sc) else okQ (stm i e b .thrown) i2 st2 sc)
      else if K i1 = 59 then okQ (stm i e .null .thrown) (i1 + 1) (st + 1) sc else erQ i1)) := rfl
theorem bndE_some {p : PR} {k : Jvm.Term → Nat → QR} {r : Except Nat (Jvm.Term × Nat × Nat × Nat)} (h : bndE p k = some r) : (∃ j, p = some (.error j) ∧ r = .error j) ∨ ∃ e i s, p = some (.ok (e, i, s)) ∧ k e i = some r := by
  match p, h with
  | some (.error j), h => exact Or.inl ⟨j, rfl, (Option.some.inj h).symm⟩
  | some (.ok (e, i, s)), h => exact Or.inr ⟨e, i, s, rfl, h⟩
theorem bndS_some {p : QR} {k : Jvm.Term → Nat → Nat → Nat → QR} {r : Except Nat (Jvm.Term × Nat × Nat × Nat)} (h : bndS p k = some r) : (∃ j, p = some (.error j) ∧ r = .error j) ∨ ∃ e i st sc, p = some (.ok (e, i, st, sc)) ∧ k e i st sc = some r := by
  match p, h with
  | some (.error j), h => exact Or.inl ⟨j, rfl, (Option.some.inj h).symm⟩
  | some (.ok (e, i, st, sc)), h => exact Or.inr ⟨e, i, st, sc, rfl, h⟩
/-! The reference while it reads S. -/
/-- at word i; st S, dp BLOCKs around, sc locals in scope, nd nodes; no fault yet -/
def SG (v : Mem) (u : Nat → Int) (n i st dp sc nd : Nat) : Prop := (∃ sg nb, ES v u n i sg nb nd) ∧ i ≤ ps u n i ∧ nd ≤ i ∧ v 38 22 = st ∧ v 38 40 = dp ∧ v 38 41 = sc
/-- what reading S leaves alone -/
def SFr (nd st : Nat) (v v' : Mem) : Prop := (∀ c x, c ≠ 38 → (c < 49 ∨ 62 < c ∨ c = 56 ∨ (c < 56 ∧ x < st) ∨ (57 ≤ c ∧ x < nd)) → v' c x = v c x) ∧ (∀ k, (k < 5 ∨ k = 7 ∨ (12 < k ∧ k < 22) ∨ (22 < k ∧ k < 31) ∨ (31 < k ∧ k < 38) ∨ 41 < k) → v' 38 k = v 38 k) ∧ NNr v v'
theorem SFr.refl {nd st : Nat} (v : Mem) : SFr nd st v v := ⟨fun _ _ _ _ => rfl, fun _ _ => rfl, NNr.refl v⟩
theorem SFr.trans {nd st nd' st' : Nat} {v v' v'' : Mem} (h : SFr nd st v v') (h' : SFr nd' st' v' v'') (hn : nd ≤ nd') (hs : st ≤ st') : SFr nd st v v'' := by
  refine ⟨fun c x hc hx => ?_, fun k hk => (h'.2.1 k hk).trans (h.2.1 k hk), h.2.2.trans h'.2.2⟩
  rw [h'.1 c x hc (by omega), h.1 c x hc hx]
theorem SFr.efr {nd st : Nat} {v v' : Mem} (h : EFr nd v v') : SFr nd st v v' := ⟨fun c x hc hx => h.1 c x hc (by omega), fun k hk => h.2.1 k (by omega), h.2.2⟩
theorem SFr.u38 {nd st : Nat} {v : Mem} {k : Nat} {a : Int} (hk : k = 5 ∨ k = 6 ∨ (8 ≤ k ∧ k ≤ 12) ∨ k = 22 ∨ k = 31 ∨ (38 ≤ k ∧ k ≤ 41)) (ha : 38 ≤ k → 0 ≤ a := by omega) (h6 : (k = 5 → a ≠ 0) ∧ (k = 6 → v 38 5 ≠ 0) := by first | omega | exact ⟨fun h => absurd h (by decide), fun _ => by show ¬ (1 : Int) = 0; decide⟩) : SFr nd st v (up v 38 k a) := ⟨fun c x hc _ => by rw [up_ne hc], fun j hj => by rw [up_nk (by omega)], NNr.up ha h6⟩
theorem SFr.ups {nd st : Nat} {v : Mem} {c x : Nat} {a : Int} (hc : 49 ≤ c ∧ c ≤ 55) (hx : st ≤ x) : SFr nd st v (up v c x a) := ⟨fun c' x' hc' hx' => by
  by_cases e : c' = c
  · subst e
    rw [up_nk (by omega)]
  · rw [up_ne e], fun j hj => by rw [up_ne (by omega)], NNr.eq (fun j _ _ => by rw [up_ne (by omega)])⟩
theorem SFr.less {nd st nd' st' : Nat} {v v' : Mem} (h : SFr nd st v v') (hn : nd' ≤ nd) (hs : st' ≤ st) : SFr nd' st' v v' := ⟨fun c x a b => h.1 c x a (by omega), h.2⟩
/-- S lo .. hi - 1 and nodes nlo .. nhi - 1 stand for a BLOCK's rest, whose first S is x (-1: none) -/
def RS (v : Mem) (u : Nat → Int) (n : Nat) : Jvm.Term → Nat → Nat → Nat → Nat → Int → Prop
  | .null, lo, hi, nlo, nhi, x => lo ≤ hi ∧ nlo ≤ nhi ∧ x = -1
  | .thrown, lo, hi, nlo, nhi, x => lo ≤ hi ∧ nlo ≤ nhi ∧ x = -1
  | .sub (.elem (.arg i) (.sub e (.sub b c))) r, lo, hi, nlo, nhi, x => ∃ m m1 n1 n2 n3 X : Nat, x = lo ∧ lo < m1 ∧ m1 ≤ m ∧ m ≤ hi ∧ nlo ≤ X ∧ X < n1 ∧ n1 ≤ n2 ∧ n2 ≤ n3 ∧ n3 ≤ nhi ∧
      v 49 lo = skd (kd u n i) ∧ (kd u n i = 19 → v 50 lo = ps u n (i + 1) ∧ v 51 lo = ln u n (i + 1)) ∧ (kd u n i = 2 → v 50 lo = ps u n i ∧ v 51 lo = ln u n i) ∧ v 52 lo = X ∧ RN v u n e nlo n1 X ∧ isE e ∧ v 61 X = fstT u n e ∧
      RS v u n b (lo + 1) m1 n1 n2 (v 53 lo) ∧ RS v u n c m1 m n2 n3 (v 54 lo) ∧ RS v u n r m hi n3 nhi (v 55 lo)
  | _, _, _, _, _, _ => False
theorem RS_same {v v' : Mem} {u : Nat → Int} {n : Nat} : ∀ (N : Nat) (e : Jvm.Term), SizeOf.sizeOf e < N → ∀ (lo hi nlo nhi : Nat) (x : Int), (∀ c k, 49 ≤ c → c ≤ 55 → lo ≤ k → k < hi → v' c k = v c k) → (∀ c k, 57 ≤ c → c ≤ 62 → nlo ≤ k → k < nhi → v' c k = v c k) → RS v u n e lo hi nlo nhi x → RS v' u n e lo hi nlo nhi x := by
  intro N
  induction N with
  | zero => intro e he; exact absurd he (Nat.not_lt_zero _)
  | succ N ih =>
    intro e he lo hi nlo nhi x h h' q
    unfold RS at q
    split at q
    · unfold RS; exact q
    · unfold RS; exact q
    · obtain ⟨m, m1, n1, n2, n3, X, q0, q1, q2, q3, q4, q5, q6, q7, q8, a1, a2, a3, a4, a5, a6, a7, b1, b2, b3⟩ := q
      unfold RS
      have l1 : lo < hi := by omega
      refine ⟨m, m1, n1, n2, n3, X, q0, q1, q2, q3, q4, q5, q6, q7, q8, ?_, ?_, ?_, ?_, RN_same _ _ (Nat.lt_succ_self _) _ _ _ (fun c j c1 c2 c3 c4 => h' c j c1 c2 c3 (by omega)) a5, a6, ?_, ?_, ?_, ?_⟩
      · rw [h 49 lo (by omega) (by omega) (by omega) l1]; exact a1
      · rw [h 50 lo (by omega) (by omega) (by omega) l1, h 51 lo (by omega) (by omega) (by omega) l1]; exact a2
      · rw [h 50 lo (by omega) (by omega) (by omega) l1, h 51 lo (by omega) (by omega) (by omega) l1]; exact a3
      · rw [h 52 lo (by omega) (by omega) (by omega) l1]; exact a4
      · rw [h' 61 X (by omega) (by omega) q4 (by omega)]; exact a7
      · rw [h 53 lo (by omega) (by omega) (by omega) l1]
        exact ih _ (by simp at he; omega) _ _ _ _ _ (fun c j c1 c2 c3 c4 => h c j c1 c2 (by omega) (by omega)) (fun c j c1 c2 c3 c4 => h' c j c1 c2 (by omega) (by omega)) b1
      · rw [h 54 lo (by omega) (by omega) (by omega) l1]
        exact ih _ (by simp at he; omega) _ _ _ _ _ (fun c j c1 c2 c3 c4 => h c j c1 c2 (by omega) (by omega)) (fun c j c1 c2 c3 c4 => h' c j c1 c2 (by omega) (by omega)) b2
      · rw [h 55 lo (by omega) (by omega) (by omega) l1]
        exact ih _ (by simp at he; omega) _ _ _ _ _ (fun c j c1 c2 c3 c4 => h c j c1 c2 (by omega) (by omega)) (fun c j c1 c2 c3 c4 => h' c j c1 c2 (by omega) (by omega)) b3
    · exact q.elim
