/-! The reference: the NAMES of an E, all of it. -/
theorem nm_node {t : Int} {d k : Nat} {v : Mem} {Q : Int → Mem → Prop} (hk : k < 3300) (h57 : 4 < v 57 k) (h : RR t d 220 [(2, 38), (0, v 58 k)] v (fun x8 v8 => (x8 = 0 → Q 0 v8) ∧ (¬ x8 = 0 → ((v8 57 k < 7 ∨ 20 < v8 57 k) → LL t (d + 1) 220 126 [(2, 38), (0, (k : Int)), (3, 0)] [] v8 Q) ∧ (¬ (v8 57 k < 7 ∨ 20 < v8 57 k) → RR t d 220 [(2, 38), (0, v8 59 k)] v8 (fun x12 v12 => (x12 = 0 → Q 0 v12) ∧ (¬ x12 = 0 → (v12 57 k = 20 → RR t d 220 [(2, 38), (0, v12 60 k)] v12 (fun x15 v15 => (x15 = 0 → Q 0 v15) ∧ (¬ x15 = 0 → Q 1 v15))) ∧ (¬ v12 57 k = 20 → Q 1 v12))))))) : RR t (d + 1) 220 [(2, 38), (0, (k : Int))] v Q := by
  have g : 0 ≤ (k : Int) ∧ (k : Int) < 3300 := ⟨by omega, by omega⟩
  refine s_220 ?_
  rw [Int.toNat_natCast]
  refine ⟨g, fun c => absurd c (by omega), fun _ => ⟨g, fun c => absurd c (by omega), fun _ => ⟨g, fun c => absurd c (by omega), fun _ => ⟨g, fun c => absurd c (by omega), fun _ => ⟨g, RR.imp h (fun x8 v8 hx => ⟨hx.1, fun c => ⟨g, fun c7 => (hx.2 c).1 (Or.inl c7), fun c7 => ⟨g, fun c20 => (hx.2 c).1 (Or.inr c20), fun c20 => ⟨g, RR.imp ((hx.2 c).2 (fun q => by rcases q with q | q <;> contradiction)) (fun x12 v12 hy => ⟨hy.1, fun e => ⟨g, fun e20 => ⟨g, RR.imp ((hy.2 e).1 e20) (fun _ _ hz => hz)⟩, fun e20 => (hy.2 e).2 e20⟩⟩)⟩⟩⟩⟩)⟩⟩⟩⟩⟩
theorem one1_r (k : Int) : one1 k = 21 ∨ one1 k = 23 ∨ one1 k = 24 := by
  unfold one1
  split
  · omega
  · split <;> omega
theorem opc_r {k : Int} (h : lvl k < 5) : 7 ≤ opc k ∧ opc k < 20 := by
  have : k = 20 ∨ k = 10 ∨ k = 189 ∨ k = 161 ∨ k = 60 ∨ k = 188 ∨ k = 43 ∨ k = 45 ∨ k = 38 ∨ k = 42 ∨ k = 47 ∨ k = 37 := by
    unfold lvl at h
    split at h
    · omega
    · split at h
      · omega
      · split at h
        · omega
        · split at h
          · omega
          · split at h
            · omega
            · omega
  rcases this with e | e | e | e | e | e | e | e | e | e | e | e <;> (rw [e]; decide)
def NmE (t : Int) (u : Nat → Int) (n : Nat) (G : Fn) (L : Sc) (e : Jvm.Term) : Prop := wfE (kd u n) false e → ∀ (lo hi : Nat) (x : Int) (d : Nat) (v : Mem) (Q : Int → Mem → Prop), RN v u n e lo hi x → hi ≤ 3300 → 2 * hgt e + 3 ≤ d → NC v u n G L → (nfE u n G L e = [] → ∀ v', RN2 v' u n G L e lo hi x → N58 lo hi v v' → Q 1 v') → (∀ p r, nfE u n G L e = p :: r → ∀ v', v' 38 5 = 2 → v' 38 6 = ((p : Nat) : Int) → NX v v' → Q 0 v') → RR t d 220 [(2, 38), (0, x)] v Q
def NmA (t : Int) (u : Nat → Int) (n : Nat) (G : Fn) (L : Sc) (e : Jvm.Term) : Prop := wfE (kd u n) true e → ∀ (lo hi : Nat) (x : Int) (d : Nat) (v : Mem) (Q : Int → Mem → Prop), RN v u n e lo hi x → hi ≤ 3300 → 2 * hgt e + 4 ≤ d → NC v u n G L → (nfE u n G L e = [] → ∀ v', RN2 v' u n G L e lo hi x → N58 lo hi v v' → Q 1 v') → (∀ p r, nfE u n G L e = p :: r → ∀ v', v' 38 5 = 2 → v' 38 6 = ((p : Nat) : Int) → NX v v' → Q 0 v') → LL t d 221 83 [(2, 38), (3, 0), (3, 0), (3, 0), (0, x)] [] v Q
/-- how many are handed over -/
theorem cnt_k {t : Int} {u : Nat → Int} {n : Nat} {d k : Nat} {v : Mem} {Q : Int → Mem → Prop} : ∀ (N : Nat) (e : Jvm.Term), SizeOf.sizeOf e < N → ∀ (lo hi : Nat) (x : Int) (c : Nat), wfE (kd u n) true e → RN v u n e lo hi x → hi ≤ 3300 → c + (hi - lo) ≤ 3300 → LL t (d + 1) 221 9 [(2, 38), (0, (k : Int)), (0, ((c + argc e : Nat) : Int)), (0, -1), (3, 0)] [] v Q → LL t (d + 1) 221 9 [(2, 38), (0, (k : Int)), (0, (c : Int)), (0, x), (3, 0)] [] v Q := by
  intro N
  induction N with
  | zero => intro e he; exact absurd he (Nat.not_lt_zero _)
  | succ N ih =>
    intro e he lo hi x c hw q hh hc hq
    match e, he, hw, q, hq with
    | .null, he, hw, q, hq =>
      have q : lo ≤ hi ∧ x = -1 := q
      rw [q.2]
      exact hq
    | .sub a r, he, hw, q, hq =>
      obtain ⟨j, m, h1, h2, h3, h4, h5, h6, h7⟩ := q
      rw [h1]
      refine s_221_9 ⟨fun z => absurd z (by omega), fun _ => ⟨⟨by omega, by omega⟩, ?_⟩⟩
      rw [Int.toNat_natCast, wS (k := c) (m := 3301) (by omega) (by decide)]
      refine ih r (by simp at he; omega) m hi _ (c + 1) hw.2 h7 hh (by omega) ?_
      have e1 : c + 1 + argc r = c + argc (.sub a r) := by show _ = c + (argc r + 1); omega
      rw [e1]
      exact hq
theorem nm_all {t : Int} {u : Nat → Int} {n : Nat} {G : Fn} {L : Sc} : ∀ (N : Nat) (e : Jvm.Term), SizeOf.sizeOf e < N → NmE t u n G L e ∧ NmA t u n G L e := by
  intro N
  induction N with
  | zero => intro e he; exact absurd he (Nat.not_lt_zero _)
  | succ N ih =>
    intro e he
    constructor
    · intro hw lo hi x d v Q q hh hd hN hq1 hq2
      obtain ⟨d', rfl⟩ : ∃ d', d = d' + 1 := ⟨d - 1, by omega⟩
      -- one part
      have one : ∀ (e1 : Jvm.Term) (k y : Nat), SizeOf.sizeOf e1 < N → wfE (kd u n) false e1 → RN v u n e1 lo k y → k < hi → v 58 k = y → (4 < v 57 k ∧ (v 57 k < 7 ∨ 20 < v 57 k) ∧ v 57 k ≠ 22) → hgt e = hgt e1 + 1 → nfE u n G L e = nfE u n G L e1 → (∀ v', RN2 v' u n G L e1 lo k y → N58 lo k v v' → RN2 v' u n G L e lo hi k) → (x = k) → RR t (d' + 1) 220 [(2, 38), (0, x)] v Q := by
        intro e1 k y hs hw1 hr hkh h58 h57 hg hnf hRN hx
        subst hx
        refine nm_node (by omega) h57.1 ?_
        rw [h58]
        refine (ih e1 hs).1 hw1 lo k y d' v _ hr (by omega) (by omega) hN (fun h0 v' h1 h2 => ⟨fun c => absurd c (by decide), fun _ => ?_⟩) (fun p r h0 v' h1 h2 h3 => ⟨fun _ => hq2 p r (hnf.trans h0) v' h1 h2 h3, fun c => absurd rfl c⟩)
        have e57 : v' 57 k = v 57 k := h2 57 k (by omega)
        rw [e57]
        refine ⟨fun _ => ?_, fun c => absurd h57.2.1 c⟩
        refine s_220_126 ?_
        rw [Int.toNat_natCast, e57]
        exact ⟨⟨by omega, by omega⟩, fun c => absurd c h57.2.2, fun _ => ⟨⟨by omega, by omega⟩, fun c => absurd c (by omega), fun _ => hq1 (hnf.trans h0) v' (hRN v' h1 h2) (h2.wide (Nat.le_refl _) (by omega))⟩⟩
      -- two parts
      have two : ∀ (e1 e2 : Jvm.Term) (k y z m : Nat), SizeOf.sizeOf e1 < N → SizeOf.sizeOf e2 < N → wfE (kd u n) false e1 → wfE (kd u n) false e2 → RN v u n e1 lo m y → RN v u n e2 m k z → lo ≤ m → m ≤ k → k < hi → v 58 k = y → v 59 k = z → ((7 ≤ v 57 k ∧ v 57 k < 20) ∨ v 57 k = 22) → hgt e = max (hgt e1) (hgt e2) + 1 → nfE u n G L e = nfE u n G L e1 ++ nfE u n G L e2 → (∀ v', RN2 v' u n G L e1 lo m y → RN2 v' u n G L e2 m k z → N58 lo k v v' → RN2 v' u n G L e lo hi k) → (x = k) → RR t (d' + 1) 220 [(2, 38), (0, x)] v Q := by
        intro e1 e2 k y z m hs1 hs2 hw1 hw2 hr1 hr2 hlm hmk hkh h58 h59 h57 hg hnf hRN hx
        subst hx
        refine nm_node (by omega) (by omega) ?_
        rw [h58]
        refine (ih e1 hs1).1 hw1 lo m y d' v _ hr1 (by omega) (by omega) hN (fun h0 v' h1 h2 => ⟨fun c => absurd c (by decide), fun _ => ?_⟩) (fun p r h0 v' h1 h2 h3 => ⟨fun _ => hq2 p _ (by rw [hnf, h0]; rfl) v' h1 h2 h3, fun c => absurd rfl c⟩)
        have e57 : v' 57 k = v 57 k := h2 57 k (by omega)
        have e59 : v' 59 k = z := (h2 59 k (by omega)).trans h59
        rw [e57, e59]
        -- the second
        have sec : ∀ (Q' : Int → Mem → Prop), (nfE u n G L e2 = [] → ∀ v2, v2 57 k = v 57 k → Q 1 v2 → Q' 1 v2) → (∀ v2, Q 0 v2 → Q' 0 v2) → RR t d' 220 [(2, 38), (0, (z : Int))] v' Q' := by
          intro Q' h4 h5
          refine (ih e2 hs2).1 hw2 m k z d' v' _ (hr2.n58 h2 (Or.inr (Nat.le_refl _))) (by omega) (by omega) (hN.n58 h2) (fun h0' v2 h6 h7 => ?_) (fun p r h0' v2 h6 h7 h8 => h5 v2 (hq2 p r (by rw [hnf, h0, h0']; rfl) v2 h6 h7 (NX.of h2 h8)))
          have f2 : N58 lo k v v2 := h2.trans h7 (Nat.le_refl _) (by omega) (by omega) (Nat.le_refl _)
          exact h4 h0' v2 (f2 57 k (by omega)) (hq1 (by rw [hnf, h0, h0']; rfl) v2 (hRN v2 (h1.n58 h7 (Or.inl (Nat.le_refl _))) h6 f2) (f2.wide (Nat.le_refl _) (by omega)))
        refine ⟨fun c => ?_, fun c => ?_⟩
        · have e22 : v 57 k = 22 := by omega
          refine s_220_126 ?_
          rw [Int.toNat_natCast, e57, e59]
          refine ⟨⟨by omega, by omega⟩, fun _ => ⟨⟨by omega, by omega⟩, sec _ (fun _ v2 h4 h5 => ⟨fun c => absurd c (by decide), fun _ => ⟨⟨by omega, by omega⟩, fun c => absurd c (by omega), fun _ => h5⟩⟩) (fun v2 h5 => ⟨fun _ => h5, fun c => absurd rfl c⟩)⟩, fun c => absurd e22 c⟩
        · exact sec _ (fun _ v2 h4 h5 => ⟨fun c => absurd c (by decide), fun _ => ⟨fun c => absurd c (by omega), fun _ => h5⟩⟩) (fun v2 h5 => ⟨fun _ => h5, fun c => absurd rfl c⟩)
      unfold RN at q
      split at q
      · exact hw.elim
      · exact hw.elim
      · rename_i i
        obtain ⟨k, h1, h2, h3, l1, l2, l3, l4⟩ := q
        subst h1
        have g : 0 ≤ (k : Int) ∧ (k : Int) < 3300 := ⟨by omega, by omega⟩
        refine s_220 ?_
        rw [Int.toNat_natCast]
        refine ⟨g, fun c => ?_, fun c1 => ⟨g, fun c => ?_, fun c2 => ⟨g, fun c => ⟨g, g, ?_⟩, fun c3 => ?_⟩⟩⟩
        · have k3 : kd u n i = 3 := by
            rcases l4 with e | e | e
            · exact e
            · have := (l2 e).1; omega
            · have := (l3 e).1; omega
          refine hq1 ?_ v ?_ (N58.refl v)
          · show (if kd u n i = 2 ∧ _ then _ else _) = _
            rw [if_neg (fun e => by omega)]
          · unfold RN2
            exact ⟨k, rfl, h2, h3, fun _ => l1 k3, fun e => by omega, fun e => by omega, l4⟩
        · have k4 : kd u n i = 4 := by
            rcases l4 with e | e | e
            · have := (l1 e).1; omega
            · exact e
            · have := (l3 e).1; omega
          refine hq1 ?_ v ?_ (N58.refl v)
          · show (if kd u n i = 2 ∧ _ then _ else _) = _
            rw [if_neg (fun e => by omega)]
          · unfold RN2
            exact ⟨k, rfl, h2, h3, fun e => by omega, fun _ => l2 k4, fun e => by omega, l4⟩
        · have k2 : kd u n i = 2 := by
            rcases l4 with e | e | e
            · have := (l1 e).1; omega
            · have := (l2 e).1; omega
            · exact e
          obtain ⟨m1, m2, m3⟩ := l3 k2
          obtain ⟨d'', rfl⟩ : ∃ d'', d' = d'' + 1 := ⟨d' - 1, by omega⟩
          rw [m2, m3]
          refine hN.lfd k2 ⟨fun cn => ⟨g, ?_⟩, fun cn => ⟨g, ?_⟩⟩
          · have es : slt L (vl u n i) = -1 := by
              rcases slt_r L (vl u n i) with e | ⟨j, e, -⟩
              · exact e
              · omega
            refine hq2 (ps u n i) [] ?_ _ rfl ?_ NX.fail
            · show (if kd u n i = 2 ∧ _ then _ else _) = _
              rw [if_pos ⟨k2, es⟩]
            · rw [up_k]; exact m2
          · have es : ¬ slt L (vl u n i) = -1 := by omega
            refine hq1 ?_ _ ?_ ?_
            · show (if kd u n i = 2 ∧ _ then _ else _) = _
              rw [if_neg (fun e => es e.2)]
            · unfold RN2
              exact ⟨k, rfl, h2, h3, fun e => by omega, fun e => by omega, fun _ => ⟨by rw [up_ne (by decide)]; exact m1, up_k⟩, l4⟩
            · intro c j hc
              rw [upc_ne (by omega)]
        · rcases l4 with e | e | e
          · exact absurd (l1 e).1 c1
          · exact absurd (l2 e).1 c2
          · exact absurd (l3 e).1 c3
      · rename_i i e1
        have := (ih e1 (by simp at he; omega)).1 hw lo hi x (d' + 1) v Q q hh hd hN (fun h0 v' h1 h2 => hq1 h0 v' (by unfold RN2; exact h1) h2) hq2
        exact this
      · rename_i i e1
        obtain ⟨k, y, h1, h2, h3, h4, h5, h6, h7, h8⟩ := q
        refine one e1 k y (by simp at he; omega) hw.2 h7 h4 h6 (by rw [h5]; split <;> omega) rfl rfl (fun v' a1 a2 => ?_) h1
        unfold RN2
        exact ⟨k, y, rfl, h2, h3, h4, (a2 57 k (by omega)).trans h5, (a2 58 k (by omega)).trans h6, a1, (a2 61 y (by omega)).trans h8⟩
      · rename_i i l r
        obtain ⟨k, y, z, m, h1, h2, h3, h4, h5, h6, h7, h8, h9, g1, g2, g3, g4⟩ := q
        have ho : 7 ≤ opc (kd u n i) ∧ opc (kd u n i) < 20 := opc_r hw.1
        refine two l r k y z m (by simp at he; omega) (by simp at he; omega) hw.2.1 hw.2.2 g1 g3 (by omega) (by omega) h6 h8 h9 (by rw [h7]; omega) rfl rfl (fun v' a1 a2 a3 => ?_) h1
        unfold RN2
        exact ⟨k, y, z, m, rfl, h2, h3, h4, h5, h6, (a3 57 k (by omega)).trans h7, (a3 58 k (by omega)).trans h8, (a3 59 k (by omega)).trans h9, a1, (a3 61 y (by omega)).trans g2, a2, (a3 61 z (by omega)).trans g4⟩
      · rename_i s e1
        obtain ⟨k, y, z, m, h1, h2, h3, h4, h5, h6, h7, h8, h9, g1, g2, g3, g4⟩ := q
        refine two s e1 k y z m (by simp at he; omega) (by simp at he; omega) hw.1 hw.2 g1 g3 (by omega) (by omega) h6 h8 h9 (by rw [h7]; omega) rfl rfl (fun v' a1 a2 a3 => ?_) h1
        unfold RN2
        exact ⟨k, y, z, m, rfl, h2, h3, h4, h5, h6, (a3 57 k (by omega)).trans h7, (a3 58 k (by omega)).trans h8, (a3 59 k (by omega)).trans h9, a1, (a3 61 y (by omega)).trans g2, a2, (a3 61 z (by omega)).trans g4⟩
      · rename_i s a b
        obtain ⟨k, y, z, w, m, m', h1, h2, h3, h4, h5, h6, h7, h8, b1, b2, b3, b4, g1, g2, g3, g4, g5, g6⟩ := q
        subst h1
        obtain ⟨w1, w2, w3⟩ := hw
        have hg : hgt (.rem s (.sub a b)) = max (hgt s) (max (hgt a) (hgt b)) + 1 := rfl
        have hnf : nfE u n G L (.rem s (.sub a b)) = nfE u n G L s ++ (nfE u n G L a ++ nfE u n G L b) := rfl
        rw [hg] at hd
        rw [hnf] at hq1 hq2
        refine nm_node (by omega) (by omega) ?_
        rw [b2]
        refine (ih s (by simp at he; omega)).1 w1 lo m y d' v _ g1 (by omega) (by omega) hN (fun h0 v1 a1 a2 => ⟨fun c => absurd c (by decide), fun _ => ?_⟩) (fun p r h0 v' a1 a2 a3 => ⟨fun _ => hq2 p _ (by rw [h0]; rfl) v' a1 a2 a3, fun c => absurd rfl c⟩)
        rw [a2 57 k (by omega), a2 59 k (by omega), b1, b3]
        refine ⟨fun c => absurd c (by omega), fun _ => ?_⟩
        refine (ih a (by simp at he; omega)).1 w2 m m' z d' v1 _ (g3.n58 a2 (Or.inr (Nat.le_refl _))) (by omega) (by omega) (hN.n58 a2) (fun h0' v2 c1 c2 => ⟨fun c => absurd c (by decide), fun _ => ?_⟩) (fun p r h0' v' c1 c2 c3 => ⟨fun _ => hq2 p _ (by rw [h0, h0']; rfl) v' c1 c2 (NX.of a2 c3), fun c => absurd rfl c⟩)
        have f2 : N58 lo m' v v2 := a2.trans c2 (Nat.le_refl _) (by omega) (by omega) (Nat.le_refl _)
        rw [f2 57 k (by omega), f2 60 k (by omega), b1, b4]
        refine ⟨fun _ => ?_, fun c => absurd rfl c⟩
        refine (ih b (by simp at he; omega)).1 w3 m' k w d' v2 _ (g5.n58 f2 (Or.inr (Nat.le_refl _))) (by omega) (by omega) (hN.n58 f2) (fun h0'' v3 e1 e2 => ⟨fun c => absurd c (by decide), fun _ => ?_⟩) (fun p r h0'' v' e1 e2 e3 => ⟨fun _ => hq2 p _ (by rw [h0, h0', h0'']; rfl) v' e1 e2 (NX.of f2 e3), fun c => absurd rfl c⟩)
        have f3 : N58 lo k v v3 := f2.trans e2 (Nat.le_refl _) (by omega) (by omega) (Nat.le_refl _)
        refine hq1 (by rw [h0, h0', h0'']; rfl) v3 ?_ (f3.wide (Nat.le_refl _) (by omega))
        unfold RN2
        exact ⟨k, y, z, w, m, m', rfl, h2, h3, h4, h5, h6, h7, h8, (f3 57 k (by omega)).trans b1, (f3 58 k (by omega)).trans b2, (f3 59 k (by omega)).trans b3, (f3 60 k (by omega)).trans b4, (a1.n58 c2 (Or.inl (Nat.le_refl _))).n58 e2 (Or.inl (by omega)), (f3 61 y (by omega)).trans g2, c1.n58 e2 (Or.inl (Nat.le_refl _)), (f3 61 z (by omega)).trans g4, e1, (f3 61 w (by omega)).trans g6⟩
      · rename_i i e1
        obtain ⟨k, y, h1, h2, h3, h4, h5, h6, h7, h8⟩ := q
        refine one e1 k y (by simp at he; omega) hw.2 h7 h4 h6 (by rw [h5]; have := one1_r (kd u n i); omega) rfl rfl (fun v' a1 a2 => ?_) h1
        unfold RN2
        exact ⟨k, y, rfl, h2, h3, h4, (a2 57 k (by omega)).trans h5, (a2 58 k (by omega)).trans h6, a1, (a2 61 y (by omega)).trans h8⟩
      · rename_i i a b
        obtain ⟨k, y, z, m, h1, h2, h3, h4, h5, h6, h7, h8, h9, g1, g2, g3, g4⟩ := q
        refine two a b k y z m (by simp at he; omega) (by simp at he; omega) hw.1 hw.2 g1 g3 (by omega) (by omega) h6 h8 h9 (by rw [h7]; omega) rfl rfl (fun v' a1 a2 a3 => ?_) h1
        unfold RN2
        exact ⟨k, y, z, m, rfl, h2, h3, h4, h5, h6, (a3 57 k (by omega)).trans h7, (a3 58 k (by omega)).trans h8, (a3 59 k (by omega)).trans h9, a1, (a3 61 y (by omega)).trans g2, a2, (a3 61 z (by omega)).trans g4⟩
      · rename_i i as
        obtain ⟨k, h1, h2, h3, h4, h5, h6, h7⟩ := q
        subst h1
        obtain ⟨k2, hwa⟩ := hw
        have hg : hgt (.op2 .ixor (.arg i) as) = hgt as + 1 := rfl
        have hnf : nfE u n G L (.op2 .ixor (.arg i) as) = (if fno G (vl u n i) = -1 ∨ ¬ (fnP G (vl u n i)).length = argc as then [ps u n i] else []) ++ nfE u n G L as := rfl
        rw [hg] at hd
        rw [hnf] at hq1 hq2
        obtain ⟨d'', rfl⟩ : ∃ d'', d' = d'' + 2 := ⟨d' - 2, by omega⟩
        have g : 0 ≤ (k : Int) ∧ (k : Int) < 3300 := ⟨by omega, by omega⟩
        refine s_220 ?_
        rw [Int.toNat_natCast, h4]
        refine ⟨g, fun c => absurd c (by decide), fun _ => ⟨g, fun c => absurd c (by decide), fun _ => ⟨g, fun c => absurd c (by decide), fun _ => ⟨g, fun _ => ?_, fun c => absurd rfl c⟩⟩⟩⟩
        refine w_221 ⟨g, ?_⟩
        rw [Int.toNat_natCast]
        refine cnt_k (d := d'' + 1) _ as (Nat.lt_succ_self _) (k + 1) hi _ 0 hwa h7 hh (by omega) ?_
        rw [Nat.zero_add]
        refine s_221_9 ⟨fun _ => ⟨g, g, ?_⟩, fun c => absurd (by decide) c⟩
        rw [Int.toNat_natCast, h5, h6]
        refine hN.ffd k2 ⟨fun cn => ⟨g, Or.inl rfl, ?_⟩, fun cn => ?_⟩
        · have es : fno G (vl u n i) = -1 := by
            rcases fno_r G (vl u n i) with e | ⟨j, e, -⟩
            · exact e
            · omega
          refine hq2 (ps u n i) _ (by rw [if_pos (Or.inl es)]; rfl) _ rfl ?_ NX.fail
          rw [up_k]; exact h5
        · obtain ⟨j, ej, hj1, hj2⟩ : ∃ j : Nat, fno G (vl u n i) = j ∧ j < G.length ∧ (G.getD j (0, [], 0)).1 = vl u n i := by
            rcases fno_r G (vl u n i) with e | e
            · omega
            · exact e
          have hP : fnP G (vl u n i) = (G.getD j (0, [], 0)).2.1 := by
            unfold fnP
            rw [ej, if_neg (by omega), Int.toNat_natCast]
          have h43 := hN.2.2.2.2.2.2 j hj1
          have hGl := hN.2.2.2.2.1
          rw [ej, Int.toNat_natCast, h43, ← hP]
          refine ⟨⟨by omega, by omega⟩, fun cl => ⟨g, g, ?_⟩, fun cl => ⟨g, Or.inl rfl, ?_⟩⟩
          · have ht : ¬ (fno G (vl u n i) = -1 ∨ ¬ (fnP G (vl u n i)).length = argc as) := by omega
            rw [if_neg ht] at hq1 hq2
            have f0 : N58 k (k + 1) v (up v 58 k (j : Int)) := fun c q hc => upc_ne (by omega)
            refine (ih as (by simp at he; omega)).2 hwa (k + 1) hi _ (d'' + 2) _ _ (h7.n58 f0 (Or.inr (Nat.le_refl _))) hh (by omega) (hN.n58 f0) (fun h0 v' a1 a2 => ⟨Or.inr rfl, ?_⟩) (fun p r h0 v' a1 a2 a3 => ⟨Or.inl rfl, hq2 p r (by rw [h0]; rfl) v' a1 a2 (NX.of f0 a3)⟩)
            have f1 : N58 lo hi v v' := f0.trans a2 (by omega) (by omega) (by omega) (Nat.le_refl _)
            refine hq1 (by rw [h0]; rfl) v' ?_ f1
            unfold RN2
            refine ⟨k, rfl, h2, h3, (f1 57 k (by omega)).trans h4, ?_, ?_⟩
            · rw [a2 58 k (by omega), up_k, ej]
            · rw [f1 60 k (by omega)]; exact a1
          · refine hq2 (ps u n i) _ (by rw [if_pos (Or.inr (by omega))]; rfl) _ rfl ?_ NX.fail
            rw [up_k]; exact h5
      · exact q.elim
    · intro hw lo hi x d v Q q hh hd hN hq1 hq2
      obtain ⟨d', rfl⟩ : ∃ d', d = d' + 1 := ⟨d - 1, by omega⟩
      match e, he, hw, q, hd, hq1, hq2 with
      | .null, he, hw, q, hd, hq1, hq2 =>
        have q2 : lo ≤ hi ∧ x = -1 := q
        rw [q2.2]
        exact s_221_83 ⟨fun _ => hq1 rfl v q2 (N58.refl v), fun c => absurd (by decide) c⟩
      | .sub a r, he, hw, q, hd, hq1, hq2 =>
        obtain ⟨k, m, h1, h2, h3, h4, h5, h6, h7⟩ := q
        have hg : hgt (.sub a r) = max (hgt a) (hgt r) := rfl
        have hnf : nfE u n G L (.sub a r) = nfE u n G L a ++ nfE u n G L r := rfl
        rw [hg] at hd
        rw [hnf] at hq1 hq2
        subst h1
        refine s_221_83 ⟨fun c => absurd c (by omega), fun _ => ?_⟩
        refine (ih a (by simp at he; omega)).1 hw.1 lo m k d' v _ h5 (by omega) (by omega) hN (fun h0 v1 a1 a2 => ⟨fun c => absurd c (by decide), fun _ => ⟨⟨by omega, by omega⟩, ?_⟩⟩) (fun p r h0 v' a1 a2 a3 => ⟨fun _ => hq2 p _ (by rw [h0]; rfl) v' a1 a2 a3, fun c => absurd rfl c⟩)
        rw [Int.toNat_natCast, a2 62 k (by omega)]
        refine (ih r (by simp at he; omega)).2 hw.2 m hi _ (d' + 1) v1 Q (h7.n58 a2 (Or.inr (Nat.le_refl _))) hh (by omega) (hN.n58 a2) (fun h0' v2 c1 c2 => ?_) (fun p r h0' v' c1 c2 c3 => hq2 p _ (by rw [h0, h0']; rfl) v' c1 c2 (NX.of a2 c3))
        have f2 : N58 lo hi v v2 := a2.trans c2 (Nat.le_refl _) (by omega) (by omega) (Nat.le_refl _)
        refine hq1 (by rw [h0, h0']; rfl) v2 ?_ f2
        show ∃ (k' m' : Nat), ((k : Nat) : Int) = k' ∧ _
        refine ⟨k, m, rfl, h2, h3, h4, a1.n58 c2 (Or.inl (Nat.le_refl _)), (f2 61 k (by omega)).trans h6, ?_⟩
        rw [f2 62 k (by omega)]; exact c1
