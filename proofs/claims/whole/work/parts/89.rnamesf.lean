/-! The reference: the NAMES of a FUNCTION, of a PROGRAM. -/
/-- what the grammar says of a FUNCTION -/
def wfF (K : Nat → Int) (q : FnT) : Prop := K (q.1 + 1) = 2 ∧ q.2.1.length ≤ 6 ∧ (∀ p ∈ q.2.1, K p.1 = 2) ∧ wfS K q.2.2.2 ∧ hgS q.2.2.2 8 ∧ scN K q.2.1.length q.2.2.2 ∧ q.2.2.2 ≠ .thrown
theorem PPar_wf {K : Nat → Int} : ∀ (f j np : Nat) (q : List (Nat × Int) × Nat), PPar K f j np = some (.ok q) → ∀ p ∈ q.1, K p.1 = 2 := by
  intro f
  induction f with
  | zero => intro j np q h; cases h
  | succ f ih =>
    intro j np q h
    have h : (if K j = 2 ∧ np < 6 then (if K (j + 1) = 58 then (if K (j + 2) = 17 ∨ K (j + 2) = 24 then (if K (j + 3) = 44 then (match PPar K f (j + 4) (np + 1) with
      | none => none
      | some (.error e) => some (.error e)
      | some (.ok q) => some (.ok ((j, tyk (K (j + 2))) :: q.1, q.2))) else some (.ok ([(j, tyk (K (j + 2)))], j + 3))) else some (.error (j + 2))) else some (.error (j + 1))) else some (.error j)) = some (Except.ok q) := h
    split at h
    · rename_i hk
      split at h
      · split at h
        · split at h
          · cases hr : PPar K f (j + 4) (np + 1) with
            | none => rw [hr] at h; cases h
            | some r =>
              rw [hr] at h
              match r, hr, h with
              | .error e, hr, h => cases h
              | .ok q', hr, h =>
                cases h
                intro p hp
                rcases List.mem_cons.mp hp with e | e
                · rw [e]; exact hk.1
                · exact ih _ _ _ hr p e
          · cases h
            intro p hp
            rcases List.mem_cons.mp hp with e | e
            · rw [e]; exact hk.1
            · cases e
        · cases h
      · cases h
    · cases h
theorem PFn_wf {K : Nat → Int} {F i fi st : Nat} {q : List (Nat × Int) × Int × Jvm.Term × Nat × Nat} (h : PFn K F i fi st = some (.ok q)) : wfF K (i, q.1, q.2.1, q.2.2.1) := by
  have hlen := (PFn_ok h).2
  unfold PFn at h
  split at h
  · split at h
    · rename_i h2
      split at h
      · have hpar : ∀ (r : Option (Except Nat (List (Nat × Int) × Nat))), r = (if K (i + 3) = 41 then some (.ok ([], i + 3)) else PPar K 8 (i + 3) 0) → ∀ q', r = some (.ok q') → ∀ p ∈ q'.1, K p.1 = 2 := by
          intro r hr q' e p hp
          rw [e] at hr
          split at hr
          · cases hr
            cases hp
          · exact PPar_wf 8 _ _ q' hr.symm p hp
        generalize hr : (if K (i + 3) = 41 then some (Except.ok ([], i + 3)) else PPar K 8 (i + 3) 0) = r at h
        match r, hr, h with
        | none, hr, h => cases h
        | some (.error e), hr, h => cases h
        | some (.ok q'), hr, h =>
          have hp := hpar _ hr.symm q' rfl
          cases ht : PTl K F q'.2 st q'.1.length with
          | none =>
            have h : (match PTl K F q'.2 st q'.1.length with
              | none => none
              | some (.error e) => some (.error e)
              | some (.ok b) => some (.ok (q'.1, b))) = some (Except.ok q) := h
            rw [ht] at h; cases h
          | some rt =>
            have h : (match PTl K F q'.2 st q'.1.length with
              | none => none
              | some (.error e) => some (.error e)
              | some (.ok b) => some (.ok (q'.1, b))) = some (Except.ok q) := h
            rw [ht] at h
            match rt, ht, h with
            | .error e, ht, h => cases h
            | .ok b, ht, h =>
              cases h
              unfold PTl at ht
              split at ht
              · split at ht
                · split at ht
                  · cases hb : PS K F 0 (q'.2 + 3) st 0 q'.1.length with
                    | none => rw [hb] at ht; cases ht
                    | some rb =>
                      rw [hb] at ht
                      match rb, hb, ht with
                      | .error e, hb, ht => cases ht
                      | .ok bb, hb, ht =>
                        cases ht
                        exact ⟨h2, hlen, hp, (PS_wf F 0 _ _ _ _ _ hb).1, PS_hgt F 0 _ _ _ _ _ hb (by omega), (PS_scN F 0 _ _ _ _ _ hb).1, (PS_wf F 0 _ _ _ _ _ hb).2 (by omega)⟩
                  · cases ht
                · cases ht
              · cases ht
      · cases h
    · cases h
  · cases h
theorem PPr_wf {K : Nat → Int} {F : Nat} : ∀ (g i fi st : Nat) (l : List FnT), PPr K F g i fi st = some (.ok l) → ∀ q ∈ l, wfF K q := by
  intro g
  induction g with
  | zero => intro i fi st l h; cases h
  | succ g ih =>
    intro i fi st l h
    have h : (match PFn K F i fi st with
      | none => none
      | some (.error e) => some (.error e)
      | some (.ok q) => if K q.2.2.2.1 = 0 then some (.ok [(i, q.1, q.2.1, q.2.2.1)]) else (match PPr K F g q.2.2.2.1 (fi + 1) q.2.2.2.2 with
        | none => none
        | some (.error e) => some (.error e)
        | some (.ok l) => some (.ok ((i, q.1, q.2.1, q.2.2.1) :: l)))) = some (Except.ok l) := h
    cases hF : PFn K F i fi st with
    | none => rw [hF] at h; cases h
    | some rf =>
      rw [hF] at h
      match rf, hF, h with
      | .error e, hF, h => cases h
      | .ok q, hF, h =>
        have h : (if K q.2.2.2.1 = 0 then some (Except.ok [(i, q.1, q.2.1, q.2.2.1)]) else (match PPr K F g q.2.2.2.1 (fi + 1) q.2.2.2.2 with
          | none => none
          | some (.error e) => some (.error e)
          | some (.ok l) => some (.ok ((i, q.1, q.2.1, q.2.2.1) :: l)))) = some (Except.ok l) := h
        split at h
        · cases h
          intro q' hq'
          rcases List.mem_cons.mp hq' with e | e
          · rw [e]; exact PFn_wf hF
          · cases e
        · cases hr : PPr K F g q.2.2.2.1 (fi + 1) q.2.2.2.2 with
          | none => rw [hr] at h; cases h
          | some r2 =>
            rw [hr] at h
            match r2, hr, h with
            | .error e, hr, h => cases h
            | .ok l2, hr, h =>
              cases h
              intro q' hq'
              rcases List.mem_cons.mp hq' with e | e
              · rw [e]; exact PFn_wf hF
              · exact ih _ _ _ l2 hr q' e
/-- the FUNCTIONS' rows, as the scope of NAMES sees them: the locals left out -/
def NG (v : Mem) (u : Nat → Int) (n : Nat) (G : Fn) : Prop := TXT 40 v n ∧ uB (v 40) n = u ∧ (v 38 13 = (G.length : Nat) ∧ G.length ≤ 20 ∧ (∃ W, NR v u n 41 42 G.length W ∧ ∀ k, k < G.length → vl u n (W k) = (G.getD k (0, [], 0)).1) ∧ ∀ k, k < G.length → v 43 k = ((G.getD k (0, [], 0)).2.1.length : Nat))
theorem NG.nc {v : Mem} {u : Nat → Int} {n : Nat} {G : Fn} (h : NG v u n G) (h42 : v 38 42 = 0) : NC v u n G [] := ⟨h.1, h.2.1, ⟨h42, by show 0 ≤ 30; omega, fun _ => 0, fun k hk => absurd hk (Nat.not_lt_zero _), fun k hk => absurd hk (Nat.not_lt_zero _)⟩, h.2.2⟩
theorem NC.ng {v : Mem} {u : Nat → Int} {n : Nat} {G : Fn} {L : Sc} (h : NC v u n G L) : NG v u n G := ⟨h.1, h.2.1, h.2.2.2⟩
theorem NG.keep {v v' : Mem} {u : Nat → Int} {n : Nat} {G : Fn} (h : NG v u n G) (hc : ∀ c, (40 ≤ c ∧ c ≤ 43) → v' c = v c) (h13 : v' 38 13 = v 38 13) : NG v' u n G := by
  unfold NG NR TXT at *
  rw [hc 40 (by omega), hc 41 (by omega), hc 42 (by omega), hc 43 (by omega), h13]
  exact h
theorem NC.mem {v : Mem} {u : Nat → Int} {n : Nat} {G : Fn} {L : Sc} (h : NC v u n G L) : v 38 42 = (L.length : Nat) ∧ L.length ≤ 30 := ⟨h.2.2.1.1, h.2.2.1.2.1⟩
theorem w6a {a : Nat} (h : a < 20) : w32 (6 * (a : Int)) = ((6 * a : Nat) : Int) := wNat (by omega) (by omega)
theorem w6b {a b : Nat} (h : a < 20) (hb : b ≤ 6) : w32 (((6 * a : Nat) : Int) + ((b : Nat) : Int)) = ((6 * a + b : Nat) : Int) := wNat (by omega) (by omega)
/-- PARAMETERS' NAMES -/
theorem nmp_lp {t : Int} {u : Nat → Int} {n : Nat} {G : Fn} {fi : Nat} {d : Nat} {Q : Int → Mem → Prop} (hf : fi < 20) (hd : 1 ≤ d) : ∀ (r : List (Nat × Int)) (np tot : Nat) (L : Sc) (v : Mem), np + r.length = tot → tot ≤ 6 → v 43 fi = (tot : Nat) → RPs v u n fi np r → (∀ p ∈ r, kd u n p.1 = 2) → L.length = np → NC v u n G L →
    (nfP u n L r = [] → ∀ v', NC v' u n G (L ++ scP u n r) → NS 0 0 0 0 L.length v v' → RR t d 222 [(2, 38), (0, v' 45 fi)] v' (fun x4 v4 => (x4 = 0 ∨ x4 = 1) ∧ Q x4 v4)) → (∀ p l, nfP u n L r = p :: l → ∀ v', v' 38 5 = 2 → v' 38 6 = ((p : Nat) : Int) → NXS v v' → Q 0 v') → LL t (d + 1) 223 41 [(2, 38), (0, (fi : Int)), (0, ((6 * fi + np : Nat) : Int))] [] v Q := by
  intro r
  induction r with
  | nil =>
    intro np tot L v h1 h6 h43 hP hk hL hN hq1 hq2
    refine s_223_41 ?_
    rw [Int.toNat_natCast, h43, w6a hf, w6b hf h6]
    have h1 : np = tot := by rw [List.length_nil] at h1; omega
    subst h1
    refine ⟨⟨by omega, by omega⟩, fun c => absurd c (by omega), fun _ => ⟨⟨by omega, by omega⟩, ?_⟩⟩
    have := hq1 rfl v (by have e : L ++ scP u n [] = L := List.append_nil L; rw [e]; exact hN) (NS.refl v)
    exact this
  | cons p r ih =>
    intro np tot L v h1 h6 h43 hP hk hL hN hq1 hq2
    rw [List.length_cons] at h1
    obtain ⟨⟨p1, p2, p3⟩, hP2⟩ := hP
    have kp := hk p (List.mem_cons_self)
    have hnf : nfP u n L (p :: r) = (if slt L (vl u n p.1) = -1 then [] else [ps u n p.1]) ++ nfP u n (L ++ [(vl u n p.1, p.2)]) r := rfl
    rw [hnf] at hq1 hq2
    refine s_223_41 ?_
    have hm : 6 * fi + np < 130 := by omega
    rw [Int.toNat_natCast, h43, w6a hf, w6b hf h6, Int.toNat_natCast, p1, p2, wS hm (by decide)]
    have g : 0 ≤ ((6 * fi + np : Nat) : Int) ∧ ((6 * fi + np : Nat) : Int) < 120 := ⟨by omega, by omega⟩
    refine ⟨⟨by omega, by omega⟩, fun _ => ⟨g, g, ?_⟩, fun c => absurd (by omega) c⟩
    obtain ⟨m1, m2⟩ := hN.mem
    refine RR.deep (d := 0 + 1) (hN.lfd kp ⟨fun cn => ?_, fun cn => ⟨g, ?_⟩⟩) hd
    · have es : slt L (vl u n p.1) = -1 := by
        rcases slt_r L (vl u n p.1) with e | ⟨j, e, -⟩
        · exact e
        · omega
      rw [if_pos es, List.nil_append] at hq1 hq2
      rw [m1, p1, p2, p3, Int.toNat_natCast, wS (k := L.length) (m := 30) (by omega) (by decide)]
      have g2 : 0 ≤ ((L.length : Nat) : Int) ∧ ((L.length : Nat) : Int) < 31 := ⟨by omega, by omega⟩
      refine ⟨g, g, g, g2, g2, g2, ?_⟩
      have hN2 := hN.enter (ty := p.2) (by omega) kp ((ps u n p.1 : Nat) : Int) (ln u n p.1) rfl rfl p.2
      have f1 : NS 0 0 0 0 L.length v (up (up (up (up v 63 L.length ((ps u n p.1 : Nat) : Int)) 64 L.length (ln u n p.1)) 65 L.length p.2) 38 42 ((L.length + 1 : Nat) : Int)) := fun c k c1 c2 c3 c4 => by rw [upc_ne (by omega), upc_ne (by omega), upc_ne (by omega), upc_ne (by omega)]
      have lL : (L ++ [(vl u n p.1, p.2)]).length = np + 1 := by rw [List.length_append, hL]; rfl
      refine ih (np + 1) tot _ _ (by omega) h6 ?_ ?_ (fun q hq => hk q (List.mem_cons_of_mem _ hq)) lL hN2 (fun h0 v' h3 h4 => ?_) (fun q l h0 v' h3 h4 h5 => hq2 q l h0 v' h3 h4 (NXS.of f1 h5))
      · rw [f1 43 fi (by omega) (by omega) (by omega) (by omega)]; exact h43
      · refine RPs_same r (np + 1) (by omega) (fun c x c1 c2 _ => f1 c x (by omega) (by omega) (by omega) (by omega)) hP2
      · have e3 : L ++ [(vl u n p.1, p.2)] ++ scP u n r = L ++ scP u n (p :: r) := by rw [List.append_assoc]; rfl
        rw [e3] at h3
        exact hq1 h0 v' h3 (f1.trans h4 (by omega) (by omega))
    · have es : ¬ slt L (vl u n p.1) = -1 := by omega
      rw [if_neg es] at hq2
      refine hq2 (ps u n p.1) _ rfl _ rfl ?_ NXS.fail
      rw [up_k]; exact p1
/-- a FUNCTION with its NAMES resolved -/
def RF2 (v : Mem) (u : Nat → Int) (n : Nat) (G : Fn) (q : FnT) (fi st st' nd nd' : Nat) : Prop := v 41 fi = ps u n (q.1 + 1) ∧ v 42 fi = ln u n (q.1 + 1) ∧ v 43 fi = (q.2.1.length : Nat) ∧ v 44 fi = q.2.2.1 ∧ RPs v u n fi 0 q.2.1 ∧ RS2 v u n G (scP u n q.2.1) q.2.2.2 st st' nd nd' (v 45 fi)
theorem nmf_rr {t : Int} {u : Nat → Int} {n : Nat} {G : Fn} {q : FnT} {fi st st' nd nd' : Nat} {d : Nat} {v : Mem} {Q : Int → Mem → Prop} (hf : fi < 20) (hw : wfF (kd u n) q) (hr : RF1 v u n q.1 q.2.1 q.2.2.1 q.2.2.2 fi st st' nd nd') (hN : NG v u n G) (h1 : st' ≤ 300) (h2 : nd' ≤ 3300) (hd : 100 ≤ d) (hq1 : nfF u n G fi q = [] → ∀ v', RF2 v' u n G q fi st st' nd nd' → NS st st' nd nd' 0 v v' → Q 1 v') (hq2 : ∀ p r, nfF u n G fi q = p :: r → ∀ v', v' 38 5 = 2 → v' 38 6 = ((p : Nat) : Int) → NXS v v' → Q 0 v') : RR t d 223 [(2, 38), (0, (fi : Int))] v Q := by
  obtain ⟨d', rfl⟩ : ∃ d', d = d' + 1 := ⟨d - 1, by omega⟩
  obtain ⟨r1, r2, r3, r4, r5, r6⟩ := hr
  obtain ⟨w1, w2, w3, w4, w5, w6, w7⟩ := hw
  have hnf : nfF u n G fi q = (if fno G (vl u n (q.1 + 1)) = fi then [] else [ps u n (q.1 + 1)]) ++ (nfP u n [] q.2.1 ++ nfB u n G (scP u n q.2.1) q.2.2.2) := rfl
  rw [hnf] at hq1 hq2
  have g : 0 ≤ (fi : Int) ∧ (fi : Int) < 20 := ⟨by omega, by omega⟩
  refine s_223 ?_
  rw [Int.toNat_natCast, r1, r2]
  have hfd : ∀ Q' : Int → Mem → Prop, Q' (fno G (vl u n (q.1 + 1))) v → RR t d' 218 [(2, 38), (0, (ps u n (q.1 + 1) : Int)), (0, ln u n (q.1 + 1))] v Q' := by
    intro Q' hQ
    obtain ⟨g1, g2, g3, g4, ⟨W, g5, g6⟩, -⟩ := hN
    refine RR.deep (d := 0 + 1) (fnOf_rr g1 g2 w1 g3 g4 g5 ?_) (by omega)
    rw [fndA_eq (b' := fun k => (G.getD k (0, [], 0)).1) G.length 0 (fun j _ hj => g6 j (by omega))]
    exact hQ
  refine ⟨g, g, hfd _ ⟨fun c => ?_, fun c => ⟨g, ?_⟩⟩⟩
  · rw [if_pos c, List.nil_append] at hq1 hq2
    have e60 : 6 * fi = 6 * fi + 0 := rfl
    rw [w6a hf, e60]
    have f0 : NS 0 0 0 0 0 v (up v 38 42 0) := fun c k _ _ _ c4 => upc_ne (by omega)
    have hN0 : NC (up v 38 42 0) u n G [] := (hN.keep (v' := up v 38 42 0) (fun c hc => up_ne (by omega)) (up_nk (by decide))).nc up_k
    refine nmp_lp hf (by omega) q.2.1 0 q.2.1.length [] (up v 38 42 0) (Nat.zero_add _) w2 r3 (RPs_same _ 0 (by omega) (fun c x c1 c2 _ => by rw [up_ne (by omega)]) r5) w3 rfl hN0 (fun h0 v1 h3 h4 => ?_) (fun p l h0 v1 h3 h4 h5 => hq2 p _ (by rw [h0]; rfl) v1 h3 h4 (NXS.of f0 h5))
    have f1 : NS 0 0 0 0 0 v v1 := f0.trans h4 (by omega) (by omega)
    have e45 : v1 45 fi = v 45 fi := f1 45 fi (by omega) (by omega) (by omega) (by omega)
    have el : ([] ++ scP u n q.2.1 : Sc) = scP u n q.2.1 := rfl
    rw [el] at h3
    have ll : (scP u n q.2.1).length = q.2.1.length := by unfold scP; rw [List.length_map]
    rw [e45]
    refine nmb_rr (k := 8) (L := scP u n q.2.1) w4 w5 (RS_same _ _ (Nat.lt_succ_self _) _ _ _ _ _ (fun c k _ _ _ _ => f1 c k (by omega) (by omega) (by omega) (by omega)) (fun c k _ _ _ _ => f1 c k (by omega) (by omega) (by omega) (by omega)) r6) h1 h2 (by omega) h3 (by rw [ll]; exact w6) (fun hb v2 c1 c2 c3 => ⟨Or.inr rfl, ?_⟩) (fun p l hb v2 c1 c2 c3 => ⟨Or.inl rfl, hq2 p _ (by rw [h0, hb]; rfl) v2 c1 c2 (NXS.of f1 c3)⟩)
    have f2 : NS st st' nd nd' 0 v v2 := fun c k c1 c2' c3' c4 => (c2 c k c1 c2' (by omega) c4).trans (f1 c k (by omega) (by omega) (by omega) c4)
    refine hq1 (by rw [h0, hb]; rfl) v2 ⟨?_, ?_, ?_, ?_, ?_, ?_⟩ f2
    · rw [f2 41 fi (by omega) (by omega) (by omega) (by omega)]; exact r1
    · rw [f2 42 fi (by omega) (by omega) (by omega) (by omega)]; exact r2
    · rw [f2 43 fi (by omega) (by omega) (by omega) (by omega)]; exact r3
    · rw [f2 44 fi (by omega) (by omega) (by omega) (by omega)]; exact r4
    · exact RPs_same _ 0 (by omega) (fun c x c1 c2 _ => f2 c x (by omega) (by omega) (by omega) (by omega)) r5
    · rw [f2 45 fi (by omega) (by omega) (by omega) (by omega)]; exact c1
  · rw [if_neg c] at hq2
    refine hq2 (ps u n (q.1 + 1)) _ rfl _ rfl ?_ NXS.fail
    rw [up_k]; exact r1
