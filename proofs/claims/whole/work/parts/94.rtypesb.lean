/-! The reference: the TYPES of a BLOCK. -/
theorem TC.ns {v v' : Mem} {G : Fn} {L : Sc} {lo hi nlo nhi m : Nat} (h : TC v G L) (f : NS lo hi nlo nhi m v v') (hm : L.length ≤ m) : TC v' G L := by
  obtain ⟨h1, ⟨h2, h3⟩, h4, h5⟩ := h
  refine ⟨?_, ⟨h2, fun k hk => ?_⟩, h4, fun k hk => ?_⟩
  · rw [f 38 5 (by omega) (by omega) (by omega) (by omega)]; exact h1
  · rw [f 65 k (by omega) (by omega) (by omega) (by omega)]; exact h3 k hk
  · obtain ⟨a1, a2, a3, a4⟩ := h5 k hk
    refine ⟨?_, a2, a3, fun j hj => ?_⟩
    · rw [f 44 k (by omega) (by omega) (by omega) (by omega)]; exact a1
    · rw [f 48 _ (by omega) (by omega) (by omega) (by omega)]; exact a4 j hj
theorem TC.enter {v : Mem} {G : Fn} {L : Sc} {x ty a b : Int} (h : TC v G L) (hl : L.length < 30) (ht : 0 ≤ ty) : TC (up (up (up (up v 63 L.length a) 64 L.length b) 65 L.length ty) 38 42 ((L.length + 1 : Nat) : Int)) G (L ++ [(x, ty)]) := by
  obtain ⟨h1, ⟨h2, h3⟩, h4, h5⟩ := h
  have ll : (L ++ [(x, ty)]).length = L.length + 1 := by rw [List.length_append]; rfl
  refine ⟨?_, ⟨by rw [ll]; omega, fun k hk => ?_⟩, h4, fun k hk => ?_⟩
  · rw [up_nk (by decide), up_ne (by decide), up_ne (by decide), up_ne (by decide)]; exact h1
  · rw [ll] at hk
    by_cases e : k = L.length
    · subst e
      rw [gd2, up_ne (by decide), up_k]
      exact ⟨rfl, ht⟩
    · rw [gd1 (by omega), up_ne (by decide), up_nk e, up_ne (by decide), up_ne (by decide)]
      exact h3 k (by omega)
  · rw [up_ne (by decide), up_ne (by decide), up_ne (by decide), up_ne (by decide), up_ne (by decide), up_ne (by decide), up_ne (by decide), up_ne (by decide)]
    exact h5 k hk
/-- the faults of TYPES of an S, but for its BLOCKs -/
def preT (u : Nat → Int) (n : Nat) (G : Fn) (rt : Int) (L : Sc) (i : Nat) (e : Jvm.Term) : List Int := if kd u n i = 19 ∨ kd u n i = 21 ∨ kd u n i = 12 then tfE u n G L [] e
    else if kd u n i = 2 then tfE u n G L [] e ++ wt (slT L (vl u n i)) (tyE u n G L e) (fstT u n e)
    else if kd u n i = 22 then tfE u n G L [] e ++ wt rt (tyE u n G L e) (fstT u n e)
    else tfE u n G L [] e ++ wt 0 (tyE u n G L e) (fstT u n e)
theorem tfS_eq {u : Nat → Int} {n : Nat} {G : Fn} {rt : Int} {L : Sc} {i : Nat} {e b c : Jvm.Term} (h1 : ¬ (kd u n i = 16 ∨ kd u n i = 25) → b = .null) (h2 : ¬ kd u n i = 16 → c = .thrown) : tfB u n G rt L (.elem (.arg i) (.sub e (.sub b c))) = preT u n G rt L i e ++ (tfB u n G rt L b ++ tfB u n G rt L c) := by
  show (if kd u n i = 19 ∨ kd u n i = 21 ∨ kd u n i = 12 then _ else if kd u n i = 2 then _ else if kd u n i = 22 then _ else _) = _
  unfold preT
  by_cases k1 : kd u n i = 19 ∨ kd u n i = 21 ∨ kd u n i = 12
  · rw [if_pos k1, if_pos k1, h1 (by omega), h2 (by omega)]
    show _ = _ ++ ([] ++ [])
    rw [List.append_nil, List.append_nil]
  · rw [if_neg k1, if_neg k1]
    by_cases k2 : kd u n i = 2
    · rw [if_pos k2, if_pos k2, h1 (by omega), h2 (by omega)]
      show _ = _ ++ ([] ++ [])
      rw [List.append_nil, List.append_nil]
    · rw [if_neg k2, if_neg k2]
      by_cases k3 : kd u n i = 22
      · rw [if_pos k3, if_pos k3, h1 (by omega), h2 (by omega)]
        show _ = _ ++ ([] ++ [])
        rw [List.append_nil, List.append_nil]
      · rw [if_neg k3, if_neg k3]
def TyL (t : Int) (u : Nat → Int) (n : Nat) (G : Fn) (rt : Int) (b : Jvm.Term) : Prop := wfS (kd u n) b → ∀ (k : Nat) (L : Sc) (lo hi nlo nhi : Nat) (x : Int) (d : Nat) (v : Mem) (Q : Int → Mem → Prop) (had f : Nat), hgS b k → RS2 v u n G L b lo hi nlo nhi x → hi ≤ 300 → nhi ≤ 3300 → 90 + k ≤ d → TC v G L → v 38 42 = (L.length : Nat) → v 38 47 = (f : Nat) → f < 20 → v 44 f = rt → scN (kd u n) L.length b → had ≤ L.length → nfB u n G L b = [] → (tfB u n G rt L b = [] → ∀ v', NS 0 0 0 0 L.length v v' → v' 38 42 = (had : Nat) → Q 1 v') → (∀ p r, tfB u n G rt L b = p :: r → ∀ v', v' 38 5 = 3 → v' 38 6 = p → NXS v v' → Q 0 v') → LL t d 227 7 [(2, 38), (3, 0), (0, (had : Int)), (0, x), (3, 0), (3, 0), (3, 0)] [] v Q
theorem tyl_all {t : Int} {u : Nat → Int} {n : Nat} {G : Fn} {rt : Int} : ∀ (N : Nat) (b : Jvm.Term), SizeOf.sizeOf b < N → TyL t u n G rt b := by
  intro N
  induction N with
  | zero => intro e he; exact absurd he (Nat.not_lt_zero _)
  | succ N ih =>
    intro b0 he hw kk L lo hi nlo nhi x d v Q had f hh q hi3 hn3 hd hT h42 h47 hf h44 hsc hhad hnf hq1 hq2
    obtain ⟨d', rfl⟩ : ∃ d', d = d' + 1 := ⟨d - 1, by omega⟩
    have empty : (lo ≤ hi ∧ nlo ≤ nhi ∧ x = -1) → tfB u n G rt L b0 = [] → LL t (d' + 1) 227 7 [(2, 38), (3, 0), (0, (had : Int)), (0, x), (3, 0), (3, 0), (3, 0)] [] v Q := by
      intro h1 h2
      rw [h1.2.2]
      exact s_227_7 ⟨fun _ => hq1 h2 _ (fun c k _ _ _ c4 => upc_ne (by omega)) up_k, fun c => absurd (by decide) c⟩
    unfold RS2 at q
    split at q
    · exact empty q rfl
    · exact empty q rfl
    · rename_i i e b c r
      obtain ⟨m, m1, n1, n2, n3, X, q0, q1, q2, q3, q4, q5, q6, q7, q8, a1, a2, a3, a4, a5, a7, b1, b2, b3⟩ := q
      obtain ⟨w1, w2, w3, w4, w5, w6, w7, w8, w9⟩ := hw
      obtain ⟨⟨hg1, j, hj, hg2, hg3⟩, hg4⟩ := hh
      obtain ⟨s1, s2, s3, s4⟩ := hsc
      obtain ⟨L', hL'⟩ : ∃ L', (if kd u n i = 19 then L ++ [(vl u n (i + 1), tyE u n G L e)] else L) = L' := ⟨_, rfl⟩
      have htf : tfB u n G rt L (.sub (.elem (.arg i) (.sub e (.sub b c))) r) = preT u n G rt L i e ++ (tfB u n G rt L b ++ (tfB u n G rt L c ++ tfB u n G rt L' r)) := by
        have e1 : tfB u n G rt L (.sub (.elem (.arg i) (.sub e (.sub b c))) r) = tfB u n G rt L (.elem (.arg i) (.sub e (.sub b c))) ++ tfB u n G rt (if kd u n i = 19 then L ++ [(vl u n (i + 1), tyE u n G L e)] else L) r := rfl
        rw [e1, hL', tfS_eq w4 w5]
        simp only [List.append_assoc]
      have hnf2 : preN u n L i = [] ∧ nfE u n G L e = [] ∧ nfB u n G L b = [] ∧ nfB u n G L c = [] ∧ nfB u n G L' r = [] := by
        have e1 : nfB u n G L (.elem (.arg i) (.sub e (.sub b c))) ++ nfB u n G (if kd u n i = 19 then L ++ [(vl u n (i + 1), tyE u n G L e)] else L) r = [] := hnf
        rw [hL', nfS_eq w4 w5] at e1
        obtain ⟨x1, x2⟩ := List.append_eq_nil_iff.mp e1
        obtain ⟨x3, x4⟩ := List.append_eq_nil_iff.mp x1
        obtain ⟨x5, x6⟩ := List.append_eq_nil_iff.mp x4
        obtain ⟨x7, x8⟩ := List.append_eq_nil_iff.mp x6
        exact ⟨x3, x5, x7, x8, x2⟩
      obtain ⟨nf1, nf2, nf3, nf4, nf5⟩ := hnf2
      rw [htf] at hq1 hq2
      subst q0
      have glo : 0 ≤ (lo : Int) ∧ (lo : Int) < 300 := ⟨by omega, by omega⟩
      obtain ⟨y1, y2, y3, y4, y5, y6, y7⟩ := skd_i (kd u n i)
      have hLL : L.length ≤ L'.length := by
        rw [← hL']
        split
        · rw [List.length_append]; omega
        · exact Nat.le_refl _
      have s4' : scN (kd u n) L'.length r := by
        have e9 : L'.length = (if kd u n i = 19 then L.length + 1 else L.length) := by
          rw [← hL']
          split
          · rw [List.length_append]; rfl
          · rfl
        rw [e9]; exact s4
      rw [hL'] at b3
      have next : preT u n G rt L i e = [] → ∀ w : Mem, NS 0 0 0 0 L.length v w → TC w G L' → w 38 42 = (L'.length : Nat) → RS2 w u n G L' b (lo + 1) m1 n1 n2 (v 53 lo) → RS2 w u n G L' c m1 m n2 n3 (v 54 lo) → nfB u n G L' b = [] → nfB u n G L' c = [] → tfB u n G rt L b = tfB u n G rt L' b → tfB u n G rt L c = tfB u n G rt L' c → scN (kd u n) L'.length b → scN (kd u n) L'.length c → LL t (d' + 1) 227 162 [(2, 38), (3, 0), (0, (had : Int)), (0, (lo : Int)), (3, 0), (0, 1), (3, 0)] [] w Q := by
        intro hpre w fw hTw h42w rb rc nb nc e1 e2 s2' s3'
        rw [hpre, List.nil_append, e1, e2] at hq1 hq2
        refine s_227_162 ⟨fun z => absurd z (by decide), fun _ => ⟨glo, ?_⟩⟩
        rw [Int.toNat_natCast, fw 53 lo (by omega) (by omega) (by omega) (by omega)]
        refine w_227 ?_
        rw [h42w]
        refine ih b (by simp at he; omega) w7 j L' (lo + 1) m1 n1 n2 _ d' w _ L'.length f hg2 rb (by omega) (by omega) (by omega) hTw h42w (by rw [fw 38 47 (by omega) (by omega) (by omega) (by omega)]; exact h47) hf (by rw [fw 44 f (by omega) (by omega) (by omega) (by omega)]; exact h44) s2' (Nat.le_refl _) nb (fun hb0 v2 c4 c5 => ⟨fun z => absurd z (by decide), fun _ => ⟨glo, ?_⟩⟩) (fun p r' hb0 v2 c3 c4 c5 => ⟨fun _ => hq2 p _ (by rw [hb0]; rfl) v2 c3 c4 (NXS.of fw c5), fun z => absurd rfl z⟩)
        have f2 : NS 0 0 0 0 L.length v v2 := fw.trans c4 (by omega) (by omega)
        rw [f2 54 lo (by omega) (by omega) (by omega) (by omega)]
        refine w_227 ?_
        rw [c5]
        refine ih c (by simp at he; omega) w8 j L' m1 m n2 n3 _ d' v2 _ L'.length f hg3 (rc.ns c4 (by omega) (by omega)) (by omega) (by omega) (by omega) (hTw.ns c4 (Nat.le_refl _)) c5 (by rw [f2 38 47 (by omega) (by omega) (by omega) (by omega)]; exact h47) hf (by rw [f2 44 f (by omega) (by omega) (by omega) (by omega)]; exact h44) s3' (Nat.le_refl _) nc (fun hc0 v3 c7 c8 => ⟨fun z => absurd z (by decide), fun _ => ⟨glo, ?_⟩⟩) (fun p r' hc0 v3 c6 c7 c8 => ⟨fun _ => hq2 p _ (by rw [hb0, hc0]; rfl) v3 c6 c7 (NXS.of f2 c8), fun z => absurd rfl z⟩)
        have f3 : NS 0 0 0 0 L.length v v3 := f2.trans c7 (by omega) (by omega)
        rw [f3 55 lo (by omega) (by omega) (by omega) (by omega)]
        exact ih r (by simp at he; omega) w9 kk L' m hi n3 nhi _ (d' + 1) v3 Q had f hg4 (b3.ns f3 (by omega) (by omega)) (by omega) (by omega) hd ((hTw.ns c4 (Nat.le_refl _)).ns c7 (Nat.le_refl _)) c8 (by rw [f3 38 47 (by omega) (by omega) (by omega) (by omega)]; exact h47) hf (by rw [f3 44 f (by omega) (by omega) (by omega) (by omega)]; exact h44) s4' (by omega) nf5 (fun hr0 v5 d1 d2 => hq1 (by rw [hb0, hc0, hr0]; rfl) v5 (f3.trans d1 (by omega) (by omega)) d2) (fun p r' hr0 v5 c9 d1 d2 => hq2 p _ (by rw [hb0, hc0, hr0]; rfl) v5 c9 d1 (NXS.of f3 d2))
      -- an S that is no let
      have keep : ¬ kd u n i = 19 → preT u n G rt L i e = [] → LL t (d' + 1) 227 162 [(2, 38), (3, 0), (0, (had : Int)), (0, (lo : Int)), (3, 0), (0, 1), (3, 0)] [] v Q := by
        intro k19 hpre
        have eL : L' = L := by rw [← hL', if_neg k19]
        subst eL
        exact next hpre v (NS.refl v) hT h42 b1 b2 nf3 nf4 rfl rfl s2 s3
      have fault : ∀ p r', preT u n G rt L i e = p :: r' → LL t (d' + 1) 227 162 [(2, 38), (3, 0), (0, (had : Int)), (0, (lo : Int)), (3, 0), (0, 0), (3, 0)] [] (fl v p) Q := fun p r' h => s_227_162 ⟨fun _ => hq2 p _ (by rw [h]; rfl) _ rfl up_k NXS.fail, fun z => absurd rfl z⟩
      have hX : X < 3300 := by omega
      have tyo : ∀ (d2 : Nat) (Q' : Int → Mem → Prop), 81 ≤ d2 → (tfE u n G L [] e = [] → Q' (tyE u n G L e) v) → (∀ p r, tfE u n G L [] e = p :: r → Q' (-1) (fl v p)) → RR t d2 226 [(2, 38), (0, (X : Int))] v Q' := fun d2 Q' h2 k1 k2 => (ty_all _ e (Nat.lt_succ_self _)).1 w2 nf2 nlo n1 X d2 v Q' a5 (by omega) (by omega) hT k1 k2
      have isE : ∀ due : Int, ¬ kd u n i = 19 → preT u n G rt L i e = tfE u n G L [] e ++ wt due (tyE u n G L e) (fstT u n e) → RR t d' 225 [(2, 38), (0, (X : Int)), (0, due)] v (fun x3 v3 => LL t (d' + 1) 227 162 [(2, 38), (3, 0), (0, (had : Int)), (0, (lo : Int)), (3, 0), (0, x3), (3, 0)] [] v3 Q) := by
        intro due k19 hpre
        obtain ⟨d2, rfl⟩ : ∃ d2, d' = d2 + 1 := ⟨d' - 1, by omega⟩
        exact iso hX a7 hT (fun Q2 k1 k2 => tyo d2 Q2 (by omega) k1 k2) (fun h => keep k19 (by rw [hpre]; exact h)) (fun p r' h => fault p r' (by rw [hpre]; exact h))
      have hn := hT.tyn (u := u) (n := n) _ e (Nat.lt_succ_self _)
      refine s_227_7 ⟨fun z => absurd z (by omega), fun _ => ⟨glo, ?_⟩⟩
      rw [Int.toNat_natCast, a1, y1, y2, y3, y4, y5, a4, h47, Int.toNat_natCast, h44]
      have hfg : 0 ≤ ((f : Nat) : Int) ∧ ((f : Nat) : Int) < 20 := ⟨by omega, by omega⟩
      refine ⟨fun k => ⟨glo, isE 0 (by omega) ?_⟩, fun k16 => ⟨fun k => ⟨glo, isE 0 (by omega) ?_⟩, fun k25 => ⟨fun k => ⟨glo, hfg, isE rt (by omega) ?_⟩, fun k22 => ⟨fun k => ⟨glo, glo, ?_⟩, fun k2 => ⟨glo, ?_⟩⟩⟩⟩⟩
      · unfold preT; rw [if_neg (by omega), if_neg (by omega), if_neg (by omega)]
      · unfold preT; rw [if_neg (by omega), if_neg (by omega), if_neg (by omega)]
      · unfold preT; rw [if_neg (by omega), if_neg (by omega), if_pos k]
      · obtain ⟨z1, z2⟩ := a3 k
        rcases slt_r L (vl u n i) with z | ⟨s, z, hs, -⟩
        · exact absurd z z2
        · have hl := hT.2.1.1
          have e5 := (hT.2.1.2 s hs).1
          have es : slT L (vl u n i) = v 65 s := by
            unfold slT
            rw [z, if_neg (by omega), Int.toNat_natCast, e5]
          rw [z1, z, Int.toNat_natCast]
          refine ⟨⟨by omega, by omega⟩, isE (v 65 s) (by omega) ?_⟩
          unfold preT
          rw [if_neg (by omega), if_pos k, es]
      · have hp : preT u n G rt L i e = tfE u n G L [] e := by
          unfold preT
          rw [if_pos]
          have := w1
          unfold skd at this
          by_cases x1 : kd u n i = 19
          · exact Or.inl x1
          · rw [if_neg x1, if_neg k2, if_neg k16, if_neg k25, if_neg k22] at this
            by_cases x2 : kd u n i = 21
            · exact Or.inr (Or.inl x2)
            · rw [if_neg x2] at this
              by_cases x3 : kd u n i = 12
              · exact Or.inr (Or.inr x3)
              · rw [if_neg x3] at this
                exact absurd rfl this
        refine tyo d' _ (by omega) (fun h => ⟨fun z => absurd z (by omega), fun _ => ⟨fun k19 => ?_, fun k19 => keep k19 (by rw [hp]; exact h)⟩⟩) (fun p r' h => ⟨fun _ => fault p r' (by rw [hp]; exact h), fun z => absurd (by decide) z⟩)
        have hl30 := s1 k19
        have g42 : 0 ≤ ((L.length : Nat) : Int) ∧ ((L.length : Nat) : Int) < 31 := ⟨by omega, by omega⟩
        have eb := w4 (by omega)
        have ec := w5 (by omega)
        subst eb ec
        rw [h42, Int.toNat_natCast, wS (k := L.length) (m := 30) hl30 (by decide)]
        refine ⟨glo, glo, g42, g42, g42, ?_⟩
        have ff : NS 0 0 0 0 L.length v (up (up (up (up v 63 L.length (v 50 lo)) 64 L.length (v 51 lo)) 65 L.length (tyE u n G L e)) 38 42 ((L.length + 1 : Nat) : Int)) := fun c k c1 c2 c3 c4 => by rw [upc_ne (by omega), upc_ne (by omega), upc_ne (by omega), upc_ne (by omega)]
        have eL : L' = L ++ [(vl u n (i + 1), tyE u n G L e)] := by rw [← hL', if_pos k19]
        refine next (by rw [hp]; exact h) _ ff ?_ ?_ b1 b2 rfl rfl rfl rfl trivial trivial
        · rw [eL]; exact hT.enter hl30 hn
        · rw [eL, List.length_append]; exact up_k
    · exact q.elim
theorem tyb_rr {t : Int} {u : Nat → Int} {n : Nat} {G : Fn} {rt : Int} {b : Jvm.Term} {k : Nat} {L : Sc} {lo hi nlo nhi d f : Nat} {x : Int} {v : Mem} {Q : Int → Mem → Prop} (hw : wfS (kd u n) b) (hh : hgS b k) (q : RS2 v u n G L b lo hi nlo nhi x) (h1 : hi ≤ 300) (h2 : nhi ≤ 3300) (hd : 90 + k ≤ d) (hT : TC v G L) (h42 : v 38 42 = (L.length : Nat)) (h47 : v 38 47 = (f : Nat)) (hf : f < 20) (h44 : v 44 f = rt) (hs : scN (kd u n) L.length b) (hnf : nfB u n G L b = []) (hq1 : tfB u n G rt L b = [] → ∀ v', NS 0 0 0 0 L.length v v' → v' 38 42 = (L.length : Nat) → Q 1 v') (hq2 : ∀ p r, tfB u n G rt L b = p :: r → ∀ v', v' 38 5 = 3 → v' 38 6 = p → NXS v v' → Q 0 v') : RR t d 227 [(2, 38), (0, x)] v Q := by
  refine w_227 ?_
  rw [h42]
  exact tyl_all _ b (Nat.lt_succ_self _) hw k L lo hi nlo nhi x d v Q L.length f hh q h1 h2 hd hT h42 h47 hf h44 hs (Nat.le_refl _) hnf hq1 hq2
