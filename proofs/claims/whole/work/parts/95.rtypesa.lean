/-! The reference: allTypes. -/
/-- TYPES are 0 and 1 -/
def tyF (q : FnT) : Prop := (∀ p ∈ q.2.1, p.2 = 0 ∨ p.2 = 1) ∧ (q.2.2.1 = 0 ∨ q.2.2.1 = 1)
theorem tyk_r (k : Int) : tyk k = 0 ∨ tyk k = 1 := by
  unfold tyk
  split
  · exact Or.inl rfl
  · exact Or.inr rfl
theorem PPar_ty {K : Nat → Int} : ∀ (f j np : Nat) (q : List (Nat × Int) × Nat), PPar K f j np = some (.ok q) → ∀ p ∈ q.1, p.2 = 0 ∨ p.2 = 1 := by
  intro f
  induction f with
  | zero => intro j np q h; cases h
  | succ f ih =>
    intro j np q h
    have h : (if K j = 2 ∧ np < 6 then (if K (j + 1) = 58 then (if K (j + 2) = 17 ∨ K (j + 2) = 24 then (if K (j + 3) = 44 then (match PPar K f (j + 4) (np + 1) with
      | none => none
      | some (.error e) => some (.error e)
      | some (.ok q) => some (.ok ((j, tyk (K (j + 2))) :: q.1, q.2))) else some (.ok ([(j, tyk (K (j + 2)))], j + 3))) else some (.error (j + 2))) else some (.error (j + 1))) else some (.error j)) = some (Except.ok q) := h
    split at h
    · split at h
      · split at h
        · split at h
          · cases hr : PPar K f (j + 4) (np + 1) with
            | none => rw [hr] at h; cases h
            | some r =>
              rw [hr] at h
              match r, hr, h with
              | .error e, hr, h => cases h
              | .ok q', hr, h =>
                cases h
                intro p hp
                rcases List.mem_cons.mp hp with e | e
                · rw [e]; exact tyk_r _
                · exact ih _ _ _ hr p e
          · cases h
            intro p hp
            rcases List.mem_cons.mp hp with e | e
            · rw [e]; exact tyk_r _
            · cases e
        · cases h
      · cases h
    · cases h
theorem PFn_ty {K : Nat → Int} {F i fi st : Nat} {q : List (Nat × Int) × Int × Jvm.Term × Nat × Nat} (h : PFn K F i fi st = some (.ok q)) : tyF (i, q.1, q.2.1, q.2.2.1) := by
  unfold PFn at h
  split at h
  · split at h
    · split at h
      · have hpar : ∀ (r : Option (Except Nat (List (Nat × Int) × Nat))), r = (if K (i + 3) = 41 then some (.ok ([], i + 3)) else PPar K 8 (i + 3) 0) → ∀ q', r = some (.ok q') → ∀ p ∈ q'.1, p.2 = 0 ∨ p.2 = 1 := by
          intro r hr q' e p hp
          rw [e] at hr
          split at hr
          · cases hr
            cases hp
          · exact PPar_ty 8 _ _ q' hr.symm p hp
        generalize hr : (if K (i + 3) = 41 then some (Except.ok ([], i + 3)) else PPar K 8 (i + 3) 0) = r at h
        match r, hr, h with
        | none, hr, h => cases h
        | some (.error e), hr, h => cases h
        | some (.ok q'), hr, h =>
          have hp := hpar _ hr.symm q' rfl
          have h : (match PTl K F q'.2 st q'.1.length with
              | none => none
              | some (.error e) => some (.error e)
              | some (.ok b) => some (.ok (q'.1, b))) = some (Except.ok q) := h
          cases ht : PTl K F q'.2 st q'.1.length with
          | none => rw [ht] at h; cases h
          | some rt =>
            rw [ht] at h
            match rt, ht, h with
            | .error e, ht, h => cases h
            | .ok b, ht, h =>
              cases h
              unfold PTl at ht
              split at ht
              · split at ht
                · split at ht
                  · cases hb : PS K F 0 (q'.2 + 3) st 0 q'.1.length with
                    | none => rw [hb] at ht; cases ht
                    | some rb =>
                      rw [hb] at ht
                      match rb, hb, ht with
                      | .error e, hb, ht => cases ht
                      | .ok bb, hb, ht =>
                        cases ht
                        exact ⟨hp, tyk_r _⟩
                  · cases ht
                · cases ht
              · cases ht
      · cases h
    · cases h
  · cases h
theorem PPr_ty {K : Nat → Int} {F : Nat} : ∀ (g i fi st : Nat) (l : List FnT), PPr K F g i fi st = some (.ok l) → ∀ q ∈ l, tyF q := by
  intro g
  induction g with
  | zero => intro i fi st l h; cases h
  | succ g ih =>
    intro i fi st l h
    have h : (match PFn K F i fi st with
      | none => none
      | some (.error e) => some (.error e)
      | some (.ok q) => if K q.2.2.2.1 = 0 then some (.ok [(i, q.1, q.2.1, q.2.2.1)]) else (match PPr K F g q.2.2.2.1 (fi + 1) q.2.2.2.2 with
        | none => none
        | some (.error e) => some (.error e)
        | some (.ok l) => some (.ok ((i, q.1, q.2.1, q.2.2.1) :: l)))) = some (Except.ok l) := h
    cases hF : PFn K F i fi st with
    | none => rw [hF] at h; cases h
    | some rf =>
      rw [hF] at h
      match rf, hF, h with
      | .error e, hF, h => cases h
      | .ok q, hF, h =>
        have h : (if K q.2.2.2.1 = 0 then some (Except.ok [(i, q.1, q.2.1, q.2.2.1)]) else (match PPr K F g q.2.2.2.1 (fi + 1) q.2.2.2.2 with
          | none => none
          | some (.error e) => some (.error e)
          | some (.ok l) => some (.ok ((i, q.1, q.2.1, q.2.2.1) :: l)))) = some (Except.ok l) := h
        split at h
        · cases h
          intro q' hq'
          rcases List.mem_cons.mp hq' with e | e
          · rw [e]; exact PFn_ty hF
          · cases e
        · cases hr : PPr K F g q.2.2.2.1 (fi + 1) q.2.2.2.2 with
          | none => rw [hr] at h; cases h
          | some r2 =>
            rw [hr] at h
            match r2, hr, h with
            | .error e, hr, h => cases h
            | .ok l2, hr, h =>
              cases h
              intro q' hq'
              rcases List.mem_cons.mp hq' with e | e
              · rw [e]; exact PFn_ty hF
              · exact ih _ _ _ l2 hr q' e
/-- what allTypes changes -/
def NTi (v v' : Mem) : Prop := ∀ c k, ¬ (63 ≤ c ∧ c ≤ 65) → ¬ (c = 38 ∧ (k = 42 ∨ k = 47)) → v' c k = v c k
def NTX (v v' : Mem) : Prop := ∀ c k, c ≠ 56 → c ≠ 58 → ¬ (63 ≤ c ∧ c ≤ 65) → ¬ (c = 38 ∧ (k = 5 ∨ k = 6 ∨ k = 42 ∨ k = 46 ∨ k = 47)) → v' c k = v c k
theorem NTi.ns {lo hi nlo nhi m : Nat} {v v' : Mem} (h : NS lo hi nlo nhi m v v') (h1 : hi ≤ lo) (h2 : nhi ≤ nlo) : NTi v v' := fun c k c1 c2 => h c k (by omega) (by omega) (by omega) (by omega)
theorem NTi.trans {v v1 v2 : Mem} (h : NTi v v1) (h' : NTi v1 v2) : NTi v v2 := fun c k c1 c2 => (h' c k c1 c2).trans (h c k c1 c2)
theorem NTX.of {v v1 v2 : Mem} (h : NTi v v1) (h' : NXS v1 v2) : NTX v v2 := fun c k c1 c2 c3 c4 => (h' c k c1 c2 c3 (by omega)).trans (h c k c3 (by omega))
theorem NTX.of' {v v1 v2 : Mem} (h : NTi v v1) (h' : NTX v1 v2) : NTX v v2 := fun c k c1 c2 c3 c4 => (h' c k c1 c2 c3 c4).trans (h c k c3 (by omega))
theorem RPr2_same {v v' : Mem} {u : Nat → Int} {n : Nat} {G : Fn} (g : ∀ c k, 41 ≤ c → c ≤ 62 → v' c k = v c k) : ∀ (l : List FnT) (fi st nd fi' st' nd' : Nat), (∀ q ∈ l, wfF (kd u n) q) → RPr2 v u n G l fi st nd fi' st' nd' → RPr2 v' u n G l fi st nd fi' st' nd' := by
  intro l
  induction l with
  | nil => intro fi st nd fi' st' nd' _ h; exact h
  | cons q l ih =>
    intro fi st nd fi' st' nd' hw h
    obtain ⟨st1, nd1, e1, e2, ⟨r1, r2, r3, r4, r5, r6⟩, h3⟩ := h
    have hq6 := (hw q List.mem_cons_self).2.1
    refine ⟨st1, nd1, e1, e2, ⟨?_, ?_, ?_, ?_, RPs_same _ 0 (by omega) (fun c x c1 c2 _ => g c x (by omega) (by omega)) r5, ?_⟩, ih _ _ _ _ _ _ (fun q' hq' => hw q' (List.mem_cons_of_mem _ hq')) h3⟩
    · rw [g 41 fi (by omega) (by omega)]; exact r1
    · rw [g 42 fi (by omega) (by omega)]; exact r2
    · rw [g 43 fi (by omega) (by omega)]; exact r3
    · rw [g 44 fi (by omega) (by omega)]; exact r4
    · rw [g 45 fi (by omega) (by omega)]
      exact RS2_same _ _ (Nat.lt_succ_self _) _ _ _ _ _ _ (fun c k _ _ _ _ => g c k (by omega) (by omega)) (fun c k _ _ _ _ => g c k (by omega) (by omega)) r6
theorem RPr2_le {v : Mem} {u : Nat → Int} {n : Nat} {G : Fn} : ∀ (l : List FnT) (fi st nd fi' st' nd' : Nat), RPr2 v u n G l fi st nd fi' st' nd' → fi + l.length = fi' ∧ st ≤ st' ∧ nd ≤ nd' := by
  intro l
  induction l with
  | nil => intro fi st nd fi' st' nd' h; obtain ⟨h1, h2, h3⟩ := h; rw [List.length_nil]; omega
  | cons q l ih =>
    intro fi st nd fi' st' nd' h
    obtain ⟨st1, nd1, e1, e2, h1, h2⟩ := h
    have a := ih _ _ _ _ _ _ h2
    rw [List.length_cons]
    omega
theorem TC.cut {v v' : Mem} {G : Fn} (h : TC v G []) (f : NTi v v') : TC v' G [] := by
  obtain ⟨h1, ⟨h2, h3⟩, h4, h5⟩ := h
  refine ⟨by rw [f 38 5 (by omega) (by omega)]; exact h1, ⟨h2, fun k hk => absurd hk (Nat.not_lt_zero _)⟩, h4, fun k hk => ?_⟩
  obtain ⟨a1, a2, a3, a4⟩ := h5 k hk
  refine ⟨by rw [f 44 k (by omega) (by omega)]; exact a1, a2, a3, fun j hj => ?_⟩
  rw [f 48 _ (by omega) (by omega)]
  exact a4 j hj
theorem TC.nil {v : Mem} {G : Fn} {L : Sc} (h : TC v G L) : TC v G [] := ⟨h.1, ⟨by show 0 ≤ 30; omega, fun k hk => absurd hk (Nat.not_lt_zero _)⟩, h.2.2⟩
/-- PARAMETERS enter the scope -/
theorem typ_lp {t : Int} {u : Nat → Int} {n : Nat} {G : Fn} {fi : Nat} {d : Nat} {Q : Int → Mem → Prop} (hf : fi < 20) : ∀ (r : List (Nat × Int)) (np tot : Nat) (L : Sc) (v : Mem), np + r.length = tot → tot ≤ 6 → v 43 fi = (tot : Nat) → RPs v u n fi np r → (∀ p ∈ r, p.2 = 0 ∨ p.2 = 1) → L.length = np → TC v G L → v 38 42 = (L.length : Nat) →
    (∀ v', TC v' G (L ++ scP u n r) → NS 0 0 0 0 L.length v v' → v' 38 42 = ((L ++ scP u n r).length : Nat) → RR t d 227 [(2, 38), (0, v' 45 fi)] v' (fun x2 v2 => (x2 = 0 → Q 0 v2) ∧ (¬ x2 = 0 → LL t (d + 1) 228 2 [(2, 38), (0, w32 ((fi : Int) + 1)), (3, 0)] [] v2 Q))) → LL t (d + 1) 228 25 [(2, 38), (0, (fi : Int)), (0, ((6 * fi + np : Nat) : Int))] [] v Q := by
  intro r
  induction r with
  | nil =>
    intro np tot L v h1 h6 h43 hP hk hL hT h42 hq
    refine s_228_25 ?_
    rw [Int.toNat_natCast, h43, w6a hf, w6b hf h6]
    have h1 : np = tot := by rw [List.length_nil] at h1; omega
    subst h1
    have e : L ++ scP u n [] = L := List.append_nil L
    rw [e] at hq
    exact ⟨⟨by omega, by omega⟩, fun c => absurd c (by omega), fun _ => ⟨⟨by omega, by omega⟩, hq v hT (NS.refl v) h42⟩⟩
  | cons p r ih =>
    intro np tot L v h1 h6 h43 hP hk hL hT h42 hq
    rw [List.length_cons] at h1
    obtain ⟨⟨p1, p2, p3⟩, hP2⟩ := hP
    have kp := hk p (List.mem_cons_self)
    refine s_228_25 ?_
    have hm : 6 * fi + np < 130 := by omega
    rw [Int.toNat_natCast, h43, w6a hf, w6b hf h6, Int.toNat_natCast, p3, h42, Int.toNat_natCast, wS hm (by decide), wS (k := L.length) (m := 30) (by omega) (by decide)]
    have g : 0 ≤ ((6 * fi + np : Nat) : Int) ∧ ((6 * fi + np : Nat) : Int) < 120 := ⟨by omega, by omega⟩
    have g2 : 0 ≤ ((L.length : Nat) : Int) ∧ ((L.length : Nat) : Int) < 31 := ⟨by omega, by omega⟩
    refine ⟨⟨by omega, by omega⟩, fun _ => ⟨g, g, g, g2, g2, g2, ?_⟩, fun c => absurd (by omega) c⟩
    have hT2 := hT.enter (x := vl u n p.1) (ty := p.2) (a := v 46 (6 * fi + np)) (b := v 47 (6 * fi + np)) (by omega) (by omega)
    have f1 : NS 0 0 0 0 L.length v (up (up (up (up v 63 L.length (v 46 (6 * fi + np))) 64 L.length (v 47 (6 * fi + np))) 65 L.length p.2) 38 42 ((L.length + 1 : Nat) : Int)) := fun c k c1 c2 c3 c4 => by rw [upc_ne (by omega), upc_ne (by omega), upc_ne (by omega), upc_ne (by omega)]
    have lL : (L ++ [(vl u n p.1, p.2)]).length = L.length + 1 := by rw [List.length_append]; rfl
    refine ih (np + 1) tot _ _ (by omega) h6 ?_ ?_ (fun q hq => hk q (List.mem_cons_of_mem _ hq)) (by rw [lL, hL]) hT2 (by rw [up_k, lL]) (fun v' h3 h4 h5 => ?_)
    · rw [f1 43 fi (by omega) (by omega) (by omega) (by omega)]; exact h43
    · exact RPs_same r (np + 1) (by omega) (fun c x c1 c2 _ => f1 c x (by omega) (by omega) (by omega) (by omega)) hP2
    · have e3 : L ++ [(vl u n p.1, p.2)] ++ scP u n r = L ++ scP u n (p :: r) := by rw [List.append_assoc]; rfl
      rw [e3] at h3 h5
      exact hq v' h3 (f1.trans h4 (by omega) (by omega)) h5
theorem tya_lp {t : Int} {u : Nat → Int} {n : Nat} {G : Fn} {d : Nat} {Q : Int → Mem → Prop} {fi' st' nd' : Nat} (hf : fi' ≤ 20) (hs : st' ≤ 300) (hn : nd' ≤ 3300) (hd : 100 ≤ d) : ∀ (l : List FnT) (fi st nd : Nat) (v : Mem), RPr2 v u n G l fi st nd fi' st' nd' → (∀ q ∈ l, wfF (kd u n) q) → (∀ q ∈ l, tyF q) → TC v G [] → v 38 13 = (fi' : Nat) → nfG u n G fi l = [] →
    (tfG u n G l = [] → ∀ v', NTi v v' → Q 0 v') → (∀ p r, tfG u n G l = p :: r → ∀ v', v' 38 5 = 3 → v' 38 6 = p → NTX v v' → Q 0 v') → LL t (d + 1) 228 2 [(2, 38), (0, (fi : Int)), (3, 0)] [] v Q := by
  intro l
  induction l with
  | nil =>
    intro fi st nd v h hw hty hT h13 hnf hq1 hq2
    obtain ⟨h1, h2, h3⟩ := h
    refine w_228_2 ?_
    rw [h13]
    exact ⟨fun c => absurd c (by omega), fun _ => hq1 rfl v (fun _ _ _ _ => rfl)⟩
  | cons q l ih =>
    intro fi st nd v h hw hty hT h13 hnf hq1 hq2
    have hle := RPr2_le _ _ _ _ _ _ _ h
    rw [List.length_cons] at hle
    have h0 := h
    obtain ⟨st1, nd1, e1, e2, ⟨r1, r2, r3, r4, r5, r6⟩, h3⟩ := h
    have hle2 := RPr2_le _ _ _ _ _ _ _ h3
    have hnf : nfF u n G fi q ++ nfG u n G (fi + 1) l = [] := hnf
    obtain ⟨hn1, hn2⟩ := List.append_eq_nil_iff.mp hnf
    have hnb : nfB u n G (scP u n q.2.1) q.2.2.2 = [] := by
      unfold nfF at hn1
      exact (List.append_eq_nil_iff.mp (List.append_eq_nil_iff.mp hn1).2).2
    have htf : tfG u n G (q :: l) = tfB u n G q.2.2.1 (scP u n q.2.1) q.2.2.2 ++ tfG u n G l := rfl
    rw [htf] at hq1 hq2
    obtain ⟨w1, w2, w3, w4, w5, w6, w7⟩ := hw q List.mem_cons_self
    obtain ⟨t1, t2⟩ := hty q List.mem_cons_self
    have hfi : fi < 20 := by omega
    refine w_228_2 ?_
    rw [h13, w6a hfi]
    refine ⟨fun _ => ?_, fun c => absurd (by omega) c⟩
    have f0 : NTi v (up (up v 38 47 (fi : Int)) 38 42 0) := fun c k c1 c2 => by rw [upc_ne (by omega), upc_ne (by omega)]
    have e60 : 6 * fi = 6 * fi + 0 := rfl
    rw [e60]
    refine typ_lp (G := G) hfi q.2.1 0 q.2.1.length [] _ (Nat.zero_add _) w2 (by rw [f0 43 fi (by omega) (by omega)]; exact r3) (RPs_same _ 0 (by omega) (fun c x c1 c2 _ => f0 c x (by omega) (by omega)) r5) t1 rfl (hT.cut f0) up_k (fun v1 g1 g2 g3 => ?_)
    have el : ([] ++ scP u n q.2.1 : Sc) = scP u n q.2.1 := rfl
    rw [el] at g1 g3
    have f1 : NTi v v1 := f0.trans (NTi.ns g2 (Nat.le_refl _) (Nat.le_refl _))
    have ll : (scP u n q.2.1).length = q.2.1.length := by unfold scP; rw [List.length_map]
    have e47 : v1 38 47 = (fi : Nat) := by
      rw [g2 38 47 (by omega) (by omega) (by omega) (by omega), up_nk (by decide), up_k]
    rw [f1 45 fi (by omega) (by omega)]
    refine tyb_rr (k := 8) (L := scP u n q.2.1) (f := fi) (rt := q.2.2.1) w4 w5 (RS2_same _ _ (Nat.lt_succ_self _) _ _ _ _ _ _ (fun c k _ _ _ _ => f1 c k (by omega) (by omega)) (fun c k _ _ _ _ => f1 c k (by omega) (by omega)) r6) (by omega) (by omega) (by omega) g1 g3 e47 hfi (by rw [f1 44 fi (by omega) (by omega)]; exact r4) (by rw [ll]; exact w6) hnb (fun hb v2 c1 c2 => ⟨fun z => absurd z (by decide), fun _ => ?_⟩) (fun p r' hb v2 c1 c2 c3 => ⟨fun _ => hq2 p _ (by rw [hb]; rfl) v2 c1 c2 (NTX.of f1 c3), fun z => absurd rfl z⟩)
    have f2 : NTi v v2 := f1.trans (NTi.ns c1 (Nat.le_refl _) (Nat.le_refl _))
    rw [wS (k := fi) (m := 21) (by omega) (by decide)]
    exact ih (fi + 1) st1 nd1 v2 (RPr2_same (fun c k c1 c2 => f2 c k (by omega) (by omega)) l _ _ _ _ _ _ (fun q' hq' => hw q' (List.mem_cons_of_mem _ hq')) h3) (fun q' hq' => hw q' (List.mem_cons_of_mem _ hq')) (fun q' hq' => hty q' (List.mem_cons_of_mem _ hq')) (hT.cut f2) (by rw [f2 38 13 (by omega) (by omega)]; exact h13) hn2 (fun h0' v3 c3 => hq1 (by rw [hb, h0']; rfl) v3 (f2.trans c3)) (fun p r' h0' v3 c3 c4 c5 => hq2 p r' (by rw [hb, h0']; rfl) v3 c3 c4 (NTX.of' f2 c5))
theorem RPr2_at {v : Mem} {u : Nat → Int} {n : Nat} {G : Fn} : ∀ (l : List FnT) (fi st nd fi' st' nd' : Nat), RPr2 v u n G l fi st nd fi' st' nd' → ∀ k, k < l.length → v 43 (fi + k) = ((l.getD k (0, [], 0, .null)).2.1.length : Nat) ∧ v 44 (fi + k) = (l.getD k (0, [], 0, .null)).2.2.1 ∧ RPs v u n (fi + k) 0 (l.getD k (0, [], 0, .null)).2.1 := by
  intro l
  induction l with
  | nil => intro fi st nd fi' st' nd' h k hk; exact absurd hk (Nat.not_lt_zero _)
  | cons q l ih =>
    intro fi st nd fi' st' nd' h k hk
    obtain ⟨st1, nd1, e1, e2, ⟨r1, r2, r3, r4, r5, r6⟩, h3⟩ := h
    cases k with
    | zero => exact ⟨r3, r4, r5⟩
    | succ k =>
      have := ih _ _ _ _ _ _ h3 k (by rw [List.length_cons] at hk; omega)
      rw [show fi + (k + 1) = fi + 1 + k by omega]
      exact this
theorem RPs_at {v : Mem} {u : Nat → Int} {n fi : Nat} : ∀ (l : List (Nat × Int)) (np : Nat), RPs v u n fi np l → ∀ j, j < l.length → v 48 (6 * fi + (np + j)) = (l.map (fun p => p.2)).getD j 0 := by
  intro l
  induction l with
  | nil => intro np h j hj; exact absurd hj (Nat.not_lt_zero _)
  | cons p l ih =>
    intro np h j hj
    cases j with
    | zero => exact h.1.2.2
    | succ j =>
      have := ih _ h.2 j (by rw [List.length_cons] at hj; omega)
      rw [show np + (j + 1) = np + 1 + j by omega]
      exact this
theorem TC_all {v : Mem} {u : Nat → Int} {n : Nat} {l : List FnT} {st' nd' : Nat} (hr : RPr2 v u n (l.map (fnOf u n)) l 0 0 0 l.length st' nd') (hw : ∀ q ∈ l, wfF (kd u n) q) (hty : ∀ q ∈ l, tyF q) (hl : l.length ≤ 20) (h5 : v 38 5 = 0) : TC v (l.map (fnOf u n)) [] := by
  have hG : (l.map (fnOf u n)).length = l.length := List.length_map _
  refine ⟨h5, ⟨by show 0 ≤ 30; omega, fun k hk => absurd hk (Nat.not_lt_zero _)⟩, by rw [hG]; exact hl, fun k hk => ?_⟩
  rw [hG] at hk
  have a := RPr2_at l 0 0 0 _ _ _ hr k hk
  rw [Nat.zero_add] at a
  have m := getD_mem (d := (0, [], 0, .null)) l k hk
  rw [getD_map l k hk]
  refine ⟨a.2.1, ?_, ?_, fun j hj => ?_⟩
  · show 0 ≤ (l.getD k (0, [], 0, .null)).2.2.1
    have := (hty _ m).2
    omega
  · show ((l.getD k (0, [], 0, .null)).2.1.map (fun p => p.2)).length ≤ 6
    rw [List.length_map]
    exact (hw _ m).2.1
  · have hj : j < ((l.getD k (0, [], 0, .null)).2.1.map (fun p => p.2)).length := hj
    rw [List.length_map] at hj
    have := RPs_at _ 0 a.2.2 j hj
    rw [Nat.zero_add] at this
    exact this
theorem types_rr {t : Int} {u : Nat → Int} {n : Nat} {l : List FnT} {st' nd' d : Nat} {v : Mem} {Q : Int → Mem → Prop} (hr : RPr2 v u n (l.map (fnOf u n)) l 0 0 0 l.length st' nd') (hw : ∀ q ∈ l, wfF (kd u n) q) (hty : ∀ q ∈ l, tyF q) (h13 : v 38 13 = (l.length : Nat)) (h5 : v 38 5 = 0) (hl : l.length ≤ 20) (hs : st' ≤ 300) (hn : nd' ≤ 3300) (hd : 101 ≤ d) (hnf : nfG u n (l.map (fnOf u n)) 0 l = [])
    (hq1 : tfG u n (l.map (fnOf u n)) l = [] → ∀ v', NTi v v' → Q 0 v') (hq2 : ∀ p r, tfG u n (l.map (fnOf u n)) l = p :: r → ∀ v', v' 38 5 = 3 → v' 38 6 = p → NTX v v' → Q 0 v') : RR t d 228 [(2, 38)] v Q := by
  obtain ⟨d', rfl⟩ : ∃ d', d = d' + 1 := ⟨d - 1, by omega⟩
  refine w_228 ?_
  exact tya_lp (d := d') (fi' := l.length) (st' := st') (nd' := nd') hl hs hn (by omega) l 0 0 0 v hr hw hty (TC_all hr hw hty hl h5) h13 hnf hq1 hq2
