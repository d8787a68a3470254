/-! The reference: the NAMES of a BLOCK. -/
theorem skd_i (k : Int) : (skd k = 1 ↔ k = 19) ∧ (skd k = 2 ↔ k = 2) ∧ (skd k = 3 ↔ k = 16) ∧ (skd k = 4 ↔ k = 25) ∧ (skd k = 5 ↔ k = 22) ∧ (skd k = 6 ↔ k = 21) ∧ (skd k = 7 ↔ k = 12) := by
  unfold skd
  split
  · omega
  · split
    · omega
    · split
      · omega
      · split
        · omega
        · split
          · omega
          · split
            · omega
            · split <;> omega
/-- the faults of NAMES of an S: of its own NAME, of its E, of its BLOCKs -/
def preN (u : Nat → Int) (n : Nat) (L : Sc) (i : Nat) : List Nat := if kd u n i = 19 then (if slt L (vl u n (i + 1)) = -1 then [] else [ps u n (i + 1)]) else if kd u n i = 2 then (if slt L (vl u n i) = -1 then [ps u n i] else []) else []
theorem nfS_eq {u : Nat → Int} {n : Nat} {G : Fn} {L : Sc} {i : Nat} {e b c : Jvm.Term} (h1 : ¬ (kd u n i = 16 ∨ kd u n i = 25) → b = .null) (h2 : ¬ kd u n i = 16 → c = .thrown) : nfB u n G L (.elem (.arg i) (.sub e (.sub b c))) = preN u n L i ++ (nfE u n G L e ++ (nfB u n G L b ++ nfB u n G L c)) := by
  show (if kd u n i = 19 then _ else if kd u n i = 2 then _ else _) = _
  unfold preN
  by_cases k19 : kd u n i = 19
  · rw [if_pos k19, if_pos k19, h1 (by omega), h2 (by omega)]
    show _ = _ ++ (nfE u n G L e ++ ([] ++ []))
    rw [List.append_nil, List.append_nil]
  · rw [if_neg k19, if_neg k19]
    by_cases k2 : kd u n i = 2
    · rw [if_pos k2, if_pos k2, h1 (by omega), h2 (by omega)]
      show _ = _ ++ (nfE u n G L e ++ ([] ++ []))
      rw [List.append_nil, List.append_nil]
    · rw [if_neg k2, if_neg k2, List.nil_append]
def NmL (t : Int) (u : Nat → Int) (n : Nat) (G : Fn) (b : Jvm.Term) : Prop := wfS (kd u n) b → ∀ (k : Nat) (L : Sc) (lo hi nlo nhi : Nat) (x : Int) (d : Nat) (v : Mem) (Q : Int → Mem → Prop) (had : Nat), hgS b k → RS v u n b lo hi nlo nhi x → hi ≤ 300 → nhi ≤ 3300 → 90 + k ≤ d → NC v u n G L → scN (kd u n) L.length b → had ≤ L.length → (nfB u n G L b = [] → ∀ v', RS2 v' u n G L b lo hi nlo nhi x → NS lo hi nlo nhi L.length v v' → v' 38 42 = (had : Nat) → Q 1 v') → (∀ p r, nfB u n G L b = p :: r → ∀ v', v' 38 5 = 2 → v' 38 6 = ((p : Nat) : Int) → NXS v v' → Q 0 v') → LL t d 222 7 [(2, 38), (3, 0), (0, (had : Int)), (0, x)] [] v Q
theorem nml_all {t : Int} {u : Nat → Int} {n : Nat} {G : Fn} : ∀ (N : Nat) (b : Jvm.Term), SizeOf.sizeOf b < N → NmL t u n G b := by
  intro N
  induction N with
  | zero => intro e he; exact absurd he (Nat.not_lt_zero _)
  | succ N ih =>
    intro b0 he hw kk L lo hi nlo nhi x d v Q had hh q hi3 hn3 hd hN hsc hhad hq1 hq2
    obtain ⟨d', rfl⟩ : ∃ d', d = d' + 1 := ⟨d - 1, by omega⟩
    -- a BLOCK with no S
    have empty : (lo ≤ hi ∧ nlo ≤ nhi ∧ x = -1) → nfB u n G L b0 = [] → (∀ v', RS2 v' u n G L b0 lo hi nlo nhi x) → LL t (d' + 1) 222 7 [(2, 38), (3, 0), (0, (had : Int)), (0, x)] [] v Q := by
      intro h1 h2 h3
      rw [h1.2.2]
      refine s_222_7 ⟨fun _ => hq1 h2 _ (h3 _) (fun c k _ _ _ c4 => upc_ne (by omega)) up_k, fun c => absurd (by decide) c⟩
    unfold RS at q
    split at q
    · exact empty q rfl (fun v' => by unfold RS2; exact q)
    · exact empty q rfl (fun v' => by unfold RS2; exact q)
    · rename_i i e b c r
      clear empty
      obtain ⟨m, m1, n1, n2, n3, X, q0, q1, q2, q3, q4, q5, q6, q7, q8, a1, a2, a3, a4, a5, a6, a7, b1, b2, b3⟩ := q
      obtain ⟨w1, w2, w3, w4, w5, w6, w7, w8, w9⟩ := hw
      obtain ⟨⟨hg1, j, hj, hg2, hg3⟩, hg4⟩ := hh
      obtain ⟨s1, s2, s3, s4⟩ := hsc
      obtain ⟨L', hL'⟩ : ∃ L', (if kd u n i = 19 then L ++ [(vl u n (i + 1), tyE u n G L e)] else L) = L' := ⟨_, rfl⟩
      have hnf : nfB u n G L (.sub (.elem (.arg i) (.sub e (.sub b c))) r) = preN u n L i ++ (nfE u n G L e ++ (nfB u n G L b ++ (nfB u n G L c ++ nfB u n G L' r))) := by
        have e1 : nfB u n G L (.sub (.elem (.arg i) (.sub e (.sub b c))) r) = nfB u n G L (.elem (.arg i) (.sub e (.sub b c))) ++ nfB u n G (if kd u n i = 19 then L ++ [(vl u n (i + 1), tyE u n G L e)] else L) r := rfl
        rw [e1, hL', nfS_eq w4 w5]
        simp only [List.append_assoc]
      rw [hnf] at hq1 hq2
      subst q0
      have glo : 0 ≤ (lo : Int) ∧ (lo : Int) < 300 := ⟨by omega, by omega⟩
      obtain ⟨y1, y2, -⟩ := skd_i (kd u n i)
      have hlen := hN.2.2.1
      -- from the E on; w: behind the S's own NAME
      have go : ∀ w : Mem, preN u n L i = [] → NS lo (lo + 1) nlo nlo L.length v w → w 38 42 = (L.length : Nat) → (kd u n i = 2 → w 56 lo = slt L (vl u n i) ∧ ¬ slt L (vl u n i) = -1) → LL t (d' + 1) 222 103 [(2, 38), (3, 0), (0, (had : Int)), (0, (lo : Int))] [] w Q := by
        intro w hpre fw h42 h56
        rw [hpre, List.nil_append] at hq1 hq2
        have cw : ∀ c, 49 ≤ c → c ≤ 55 → w c lo = v c lo := fun c c1 c2 => fw c lo (by omega) (by omega) (by omega) (by omega)
        refine s_222_103 ?_
        rw [Int.toNat_natCast, cw 52 (by omega) (by omega), a4]
        have rn : RN w u n e nlo n1 X := RN_same _ e (Nat.lt_succ_self _) _ _ _ (fun c k c1 c2 c3 c4 => fw c k (by omega) (by omega) (by omega) (by omega)) a5
        refine ⟨glo, (nm_all _ e (Nat.lt_succ_self _)).1 w2 nlo n1 X d' w _ rn (by omega) (by omega) (hN.ns fw (Nat.le_refl _) h42) (fun he0 v1 c1 c2 => ⟨fun z => absurd z (by decide), fun _ => ⟨glo, ?_⟩⟩) (fun p r' he0 v1 c1 c2 c3 => ⟨fun _ => hq2 p _ (by rw [he0]; rfl) v1 c1 c2 (NXS.of fw (NXS.nx c3)), fun z => absurd rfl z⟩)⟩
        have f1 : NS lo (lo + 1) nlo n1 L.length v v1 := fw.trans (NS.n58 (lo := lo) (hi := lo + 1) (m := L.length) c2) (by omega) (by omega)
        have h421 : v1 38 42 = (L.length : Nat) := (c2 38 42 (by omega)).trans h42
        rw [f1 53 lo (by omega) (by omega) (by omega) (by omega)]
        refine w_222 ?_
        rw [h421]
        refine ih b (by simp at he; omega) w7 j L (lo + 1) m1 n1 n2 _ d' v1 _ L.length hg2 (b1.ns f1 (by omega) (by omega)) (by omega) (by omega) (by omega) (hN.ns f1 (Nat.le_refl _) h421) s2 (Nat.le_refl _) (fun hb0 v2 c3 c4 c5 => ⟨fun z => absurd z (by decide), fun _ => ⟨glo, ?_⟩⟩) (fun p r' hb0 v2 c3 c4 c5 => ⟨fun _ => hq2 p _ (by rw [he0, hb0]; rfl) v2 c3 c4 (NXS.of f1 c5), fun z => absurd rfl z⟩)
        have f2 : NS lo m1 nlo n2 L.length v v2 := f1.trans c4 (by omega) (by omega)
        rw [f2 54 lo (by omega) (by omega) (by omega) (by omega)]
        refine w_222 ?_
        rw [c5]
        refine ih c (by simp at he; omega) w8 j L m1 m n2 n3 _ d' v2 _ L.length hg3 (b2.ns f2 (by omega) (by omega)) (by omega) (by omega) (by omega) (hN.ns f2 (Nat.le_refl _) c5) s3 (Nat.le_refl _) (fun hc0 v3 c6 c7 c8 => ⟨fun z => absurd z (by decide), fun _ => ⟨glo, ?_⟩⟩) (fun p r' hc0 v3 c6 c7 c8 => ⟨fun _ => hq2 p _ (by rw [he0, hb0, hc0]; rfl) v3 c6 c7 (NXS.of f2 c8), fun z => absurd rfl z⟩)
        have f3 : NS lo m nlo n3 L.length v v3 := f2.trans c7 (by omega) (by omega)
        have v3c : ∀ c, 49 ≤ c → c ≤ 55 → v3 c lo = v c lo := fun c c1 c2 => f3 c lo (by omega) (by omega) (by omega) (by omega)
        have v356 : v3 56 lo = w 56 lo := by
          rw [c7 56 lo (by omega) (by omega) (by omega) (by omega), c4 56 lo (by omega) (by omega) (by omega) (by omega), c2 56 lo (by omega)]
        rw [v3c 49 (by omega) (by omega), v3c 50 (by omega) (by omega), v3c 51 (by omega) (by omega), v3c 55 (by omega) (by omega), a1, y1, c8]
        -- what stands for the S, in the end
        have fin : ∀ (v4 : Mem), NS lo m nlo n3 L.length v v4 → (∀ c k, ¬ (c = 56 ∧ k = lo) → ¬ (63 ≤ c ∧ c ≤ 65) → ¬ (c = 38 ∧ k = 42) → v4 c k = v3 c k) → NC v4 u n G L' → (kd u n i = 19 → v4 56 lo = (L.length : Nat)) → (kd u n i = 2 → v4 56 lo = slt L (vl u n i) ∧ ¬ slt L (vl u n i) = -1) → LL t (d' + 1) 222 7 [(2, 38), (3, 0), (0, (had : Int)), (0, v 55 lo)] [] v4 Q := by
          intro v4 f4 g4 hN4 h19 h2
          have hLL : L.length ≤ L'.length := by
            rw [← hL']
            split
            · rw [List.length_append]; omega
            · exact Nat.le_refl _
          have s4' : scN (kd u n) L'.length r := by
            have e9 : L'.length = (if kd u n i = 19 then L.length + 1 else L.length) := by
              rw [← hL']
              split
              · rw [List.length_append]; rfl
              · rfl
            rw [e9]; exact s4
          refine ih r (by simp at he; omega) w9 kk L' m hi n3 nhi _ (d' + 1) v4 Q had hg4 (b3.ns f4 (by omega) (by omega)) (by omega) (by omega) hd hN4 s4' (by omega) (fun hr0 v5 c9 d1 d2 => ?_) (fun p r' hr0 v5 c9 d1 d2 => hq2 p _ (by rw [he0, hb0, hc0, hr0]; rfl) v5 c9 d1 (NXS.of f4 d2))
          have f5 : NS lo hi nlo nhi L.length v v5 := f4.trans d1 (by omega) (by omega)
          refine hq1 (by rw [he0, hb0, hc0, hr0]; rfl) v5 ?_ f5 d2
          have v5c : ∀ c, 49 ≤ c → c ≤ 55 → v5 c lo = v c lo := fun c c1 c2 => f5 c lo (by omega) (by omega) (by omega) (by omega)
          have v556 : v5 56 lo = v4 56 lo := d1 56 lo (by omega) (by omega) (by omega) (by omega)
          unfold RS2
          refine ⟨m, m1, n1, n2, n3, X, rfl, q1, q2, q3, q4, q5, q6, q7, q8, ?_, fun k => ⟨?_, ?_, ?_⟩, fun k => ?_, ?_, ?_, ?_, ?_, ?_, ?_⟩
          · rw [v5c 49 (by omega) (by omega)]; exact a1
          · rw [v5c 50 (by omega) (by omega)]; exact (a2 k).1
          · rw [v5c 51 (by omega) (by omega)]; exact (a2 k).2
          · rw [v556]; exact h19 k
          · rw [v556]; exact h2 k
          · rw [v5c 52 (by omega) (by omega)]; exact a4
          · have r1 : RN2 v3 u n G L e nlo n1 X := (c1.ns c4 (by omega)).ns c7 (by omega)
            have r2 : RN2 v4 u n G L e nlo n1 X := RN2_same _ e (Nat.lt_succ_self _) _ _ _ (fun c k c1 c2 c3 c4 => g4 c k (by omega) (by omega) (by omega)) r1
            exact r2.ns d1 (by omega)
          · rw [f5 61 X (by omega) (by omega) (by omega) (by omega)]; exact a7
          · rw [v5c 53 (by omega) (by omega)]
            have r1 : RS2 v3 u n G L b (lo + 1) m1 n1 n2 (v 53 lo) := c3.ns c7 (by omega) (by omega)
            have r2 : RS2 v4 u n G L b (lo + 1) m1 n1 n2 (v 53 lo) := RS2_same _ b (Nat.lt_succ_self _) _ _ _ _ _ _ (fun c k c1 c2 c3 c4 => g4 c k (by omega) (by omega) (by omega)) (fun c k c1 c2 c3 c4 => g4 c k (by omega) (by omega) (by omega)) r1
            exact r2.ns d1 (by omega) (by omega)
          · rw [v5c 54 (by omega) (by omega)]
            have r2 : RS2 v4 u n G L c m1 m n2 n3 (v 54 lo) := RS2_same _ c (Nat.lt_succ_self _) _ _ _ _ _ _ (fun c k c1 c2 c3 c4 => g4 c k (by omega) (by omega) (by omega)) (fun c k c1 c2 c3 c4 => g4 c k (by omega) (by omega) (by omega)) c6
            exact r2.ns d1 (by omega) (by omega)
          · rw [v5c 55 (by omega) (by omega), hL']; exact c9
        refine ⟨fun k19 => ?_, fun k19 => ?_⟩
        · have hl30 := s1 k19
          have g42 : 0 ≤ ((L.length : Nat) : Int) ∧ ((L.length : Nat) : Int) < 31 := ⟨by omega, by omega⟩
          refine ⟨glo, glo, glo, g42, g42, g42, glo, ?_⟩
          rw [Int.toNat_natCast, wS (k := L.length) (m := 30) hl30 (by decide), (a2 k19).1, (a2 k19).2]
          have ff : NS lo (lo + 1) nlo nlo L.length v3 (up (up (up (up (up v3 56 lo ((L.length : Nat) : Int)) 63 L.length ((ps u n (i + 1) : Nat) : Int)) 64 L.length (ln u n (i + 1))) 65 L.length 0) 38 42 ((L.length + 1 : Nat) : Int)) := fun c k c1 c2 c3 c4 => by rw [upc_ne (by omega), upc_ne (by omega), upc_ne (by omega), upc_ne (by omega), upc_ne (by omega)]
          refine fin _ (f3.trans ff (by omega) (by omega)) (fun c k c1 c2 c3 => by rw [upc_ne (by omega), upc_ne (by omega), upc_ne (by omega), upc_ne (by omega), upc_ne (by omega)]) ?_ (fun _ => ?_) (fun k => by omega)
          · rw [← hL', if_pos k19]
            have hN3 : NC (up v3 56 lo ((L.length : Nat) : Int)) u n G L := (hN.ns f3 (Nat.le_refl _) c8).keep (fun c hc => up_ne (by omega))
            exact hN3.enter hl30 (w3 k19) _ _ rfl rfl 0
          · rw [up_ne (by decide), up_ne (by decide), up_ne (by decide), up_ne (by decide), up_k]
        · refine ⟨glo, fin v3 f3 (fun _ _ _ _ _ => rfl) ?_ (fun k => absurd k k19) (fun k => ?_)⟩
          · rw [← hL', if_neg k19]
            exact hN.ns f3 (Nat.le_refl _) c8
          · rw [v356]; exact h56 k
      refine s_222_7 ⟨fun z => absurd z (by omega), fun _ => ?_⟩
      rw [Int.toNat_natCast, a1, y1]
      -- the S's own NAME, if it is given a value
      have mid : (kd u n i = 19 → preN u n L i = []) → LL t (d' + 1) 222 51 [(2, 38), (3, 0), (0, (had : Int)), (0, (lo : Int))] [] v Q := by
        intro hp19
        refine s_222_51 ?_
        rw [Int.toNat_natCast, a1, y2]
        refine ⟨glo, fun k2 => ⟨glo, glo, ?_⟩, fun k2 => ?_⟩
        · have hpre : preN u n L i = (if slt L (vl u n i) = -1 then [ps u n i] else []) := by
            unfold preN
            rw [if_neg (by omega), if_pos k2]
          rw [(a3 k2).1, (a3 k2).2]
          obtain ⟨d'', rfl⟩ : ∃ d'', d' = d'' + 1 := ⟨d' - 1, by omega⟩
          refine hN.lfd k2 ⟨glo, glo, ?_⟩
          rw [up_k, (a3 k2).1]
          refine ⟨fun cn => ⟨glo, ?_⟩, fun cn => ?_⟩
          · have es : slt L (vl u n i) = -1 := by
              rcases slt_r L (vl u n i) with e | ⟨j, e, -⟩
              · exact e
              · omega
            refine hq2 (ps u n i) _ (by rw [hpre, if_pos es]; rfl) _ rfl up_k ?_
            exact fun c k c1 c2 c3 c4 => by rw [upc_ne (by omega), upc_ne (by omega), upc_ne (by omega)]
          · refine go _ (by rw [hpre, if_neg (by omega)]) (fun c k c1 c2 c3 c4 => upc_ne (by omega)) hlen.1 (fun _ => ⟨up_k, by omega⟩)
        · refine go v ?_ (NS.refl v) hlen.1 (fun k => absurd k k2)
          by_cases k19 : kd u n i = 19
          · exact hp19 k19
          · unfold preN
            rw [if_neg k19, if_neg k2]
      refine ⟨glo, fun k19 => ⟨glo, glo, ?_⟩, fun k19 => mid (fun k => absurd k k19)⟩
      have hpre : preN u n L i = (if slt L (vl u n (i + 1)) = -1 then [] else [ps u n (i + 1)]) := by
        unfold preN
        rw [if_pos k19]
      rw [(a2 k19).1, (a2 k19).2]
      obtain ⟨d'', rfl⟩ : ∃ d'', d' = d'' + 1 := ⟨d' - 1, by omega⟩
      refine hN.lfd (w3 k19) ⟨fun cn => mid (fun _ => ?_), fun cn => ⟨glo, ?_⟩⟩
      · have es : slt L (vl u n (i + 1)) = -1 := by
          rcases slt_r L (vl u n (i + 1)) with e | ⟨j, e, -⟩
          · exact e
          · omega
        rw [hpre, if_pos es]
      · refine hq2 (ps u n (i + 1)) _ (by rw [hpre, if_neg (by omega)]; rfl) _ rfl ?_ NXS.fail
        rw [up_k]; exact (a2 k19).1
    · exact q.elim
/-- the NAMES of a BLOCK -/
theorem nmb_rr {t : Int} {u : Nat → Int} {n : Nat} {G : Fn} {b : Jvm.Term} {k : Nat} {L : Sc} {lo hi nlo nhi : Nat} {x : Int} {d : Nat} {v : Mem} {Q : Int → Mem → Prop} (hw : wfS (kd u n) b) (hh : hgS b k) (q : RS v u n b lo hi nlo nhi x) (h1 : hi ≤ 300) (h2 : nhi ≤ 3300) (hd : 90 + k ≤ d) (hN : NC v u n G L) (hsc : scN (kd u n) L.length b) (hq1 : nfB u n G L b = [] → ∀ v', RS2 v' u n G L b lo hi nlo nhi x → NS lo hi nlo nhi L.length v v' → v' 38 42 = (L.length : Nat) → Q 1 v') (hq2 : ∀ p r, nfB u n G L b = p :: r → ∀ v', v' 38 5 = 2 → v' 38 6 = ((p : Nat) : Int) → NXS v v' → Q 0 v') : RR t d 222 [(2, 38), (0, x)] v Q := by
  refine w_222 ?_
  rw [hN.2.2.1.1]
  exact nml_all _ b (Nat.lt_succ_self _) hw k L lo hi nlo nhi x d v Q L.length hh q h1 h2 hd hN hsc (Nat.le_refl _) hq1 hq2
