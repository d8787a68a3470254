/-! The reference: whether an E is a text; two are compared. -/
theorem RX.cur {v0 v : Mem} {n z dp : Nat} {en : Int} {J : Jb} {P : List Fr} {Y X : List TyR} {e : Nat} {ρ : Rho} (h : RX v0 n z dp en J (P ++ [(Y, e, X)]) ρ v) : RLf v n J P.length Y ∧ v 38 57 = ((P.length + 1 : Nat) : Int) ∧ P.length < 12 := by
  obtain ⟨a1, a2, a3, a4, a5, a6, a7⟩ := h
  have q := ((RLo_app _ _ _).mp a4).2.1
  rw [Nat.zero_add] at q
  have b1 := a5.1.1
  have b2 := a5.1.2.2
  rw [List.length_append] at b1 b2
  exact ⟨q, b1, by have : P.length + 1 ≤ dp := b2.1; omega⟩
theorem rrw.ty01 {J : Jb} {n : Nat} {r : Rw} {ty x y w : Int} (h : rrw J n r ty x y w) : ty = 0 ∨ ty = 1 := by
  rcases h with h | h | h | h
  · exact Or.inl h.1
  · exact Or.inr h.1
  · exact Or.inr h.1
  · exact Or.inr h.1
theorem tyL {Y : List TyR} {L : Sc} (h : Y.map (fun x => x.2) = L.map (fun x => x.2)) : Y.length = L.length ∧ ∀ j, j < L.length → (Y.getD j ((-1, 0, 0), 0)).2 = (L.getD j (0, 0)).2 := by
  have hl : Y.length = L.length := by
    have := congrArg List.length h
    rwa [List.length_map, List.length_map] at this
  refine ⟨hl, fun j hj => ?_⟩
  have e1 := getD_mp (f := fun x : TyR => x.2) (d := ((-1, 0, 0), 0)) (e := 0) Y j (by omega)
  have e2 := getD_mp (f := fun x : Int × Int => x.2) (d := (0, 0)) (e := 0) L j hj
  rw [h, e2] at e1
  exact e1.symm
/-- the FUNCTIONS' TYPES stand -/
def FTy (v0 : Mem) (G : Fn) : Prop := G.length ≤ 20 ∧ ∀ ci, ci < G.length → v0 44 ci = (G.getD ci (0, [], 0)).2.2 ∧ ((G.getD ci (0, [], 0)).2.2 = 0 ∨ (G.getD ci (0, [], 0)).2.2 = 1)
theorem opc_c {k c : Int} (hc : opc k = c) : (c = 15 ↔ k = 38) ∧ c ≠ 3 ∧ c ≠ 4 ∧ c ≠ 2 ∧ c ≠ 20 ∧ c ≠ 23 ∧ c ≠ 24 := by
  unfold opc at hc
  by_cases h0 : k = 20
  · rw [if_pos h0] at hc; omega
  rw [if_neg h0] at hc
  by_cases h1 : k = 10
  · rw [if_pos h1] at hc; omega
  rw [if_neg h1] at hc
  by_cases h2 : k = 189
  · rw [if_pos h2] at hc; omega
  rw [if_neg h2] at hc
  by_cases h3 : k = 161
  · rw [if_pos h3] at hc; omega
  rw [if_neg h3] at hc
  by_cases h4 : k = 60
  · rw [if_pos h4] at hc; omega
  rw [if_neg h4] at hc
  by_cases h5 : k = 188
  · rw [if_pos h5] at hc; omega
  rw [if_neg h5] at hc
  by_cases h6 : k = 43
  · rw [if_pos h6] at hc; omega
  rw [if_neg h6] at hc
  by_cases h7 : k = 45
  · rw [if_pos h7] at hc; omega
  rw [if_neg h7] at hc
  by_cases h8 : k = 38
  · rw [if_pos h8] at hc; omega
  rw [if_neg h8] at hc
  by_cases h9 : k = 42
  · rw [if_pos h9] at hc; omega
  rw [if_neg h9] at hc
  by_cases h10 : k = 47
  · rw [if_pos h10] at hc; omega
  rw [if_neg h10] at hc
  by_cases h11 : k = 37
  · rw [if_pos h11] at hc; omega
  rw [if_neg h11] at hc
  omega
theorem istx_rr {t : Int} {d : Nat} {v0 v : Mem} {n z dp : Nat} {J : Jb} {P : List Fr} {Y X : List TyR} {ex : Nat} {ρ : Rho} {u : Nat → Int} {G : Fn} {L : Sc} {Q : Int → Mem → Prop} (h : RX v0 n z dp 0 J (P ++ [(Y, ex, X)]) ρ v) (hL : Y.map (fun x => x.2) = L.map (fun x => x.2)) (hG : FTy v0 G) : ∀ (N : Nat) (e : Jvm.Term), SizeOf.sizeOf e < N → wfE (kd u n) false e → ∀ (lo hi : Nat) (y : Int), RN2 v0 u n G L e lo hi y → hi ≤ 3300 → nfE u n G L e = [] → Q (tyE u n G L e) v → RR t (d + 1) 240 [(2, 38), (0, y)] v Q := by
  have c57 : v 57 = v0 57 := h.2.2.2.2.2.2.1 57 (by omega) (by decide)
  have c58 : v 58 = v0 58 := h.2.2.2.2.2.2.1 58 (by omega) (by decide)
  have c44 : v 44 = v0 44 := h.2.2.2.2.2.2.1 44 (by omega) (by decide)
  obtain ⟨cu1, cu2, cu3⟩ := h.cur
  intro N
  induction N with
  | zero => intro e he; exact absurd he (Nat.not_lt_zero _)
  | succ N ih =>
    intro e he hw lo hi y hr h33 hnf hq
    unfold wfE at hw
    split at hw
    · rename_i q; cases q
    · rename_i q; cases q
    · exact hw.elim
    · rename_i i _
      obtain ⟨k, rfl, k1, k2, lf1, lf2, lf3, lf4⟩ := hr
      have hq : Q (if kd u n i = 3 then 0 else if kd u n i = 4 then 1 else slT L (vl u n i)) v := hq
      rcases lf4 with c | c | c
      · rw [if_pos c] at hq
        refine istx_k (K := 1) (by omega) (by rw [c57]; exact (lf1 c).1) (by decide) (by decide) ?_
        rw [if_neg (by decide)]
        exact hq
      · rw [if_neg (by omega), if_pos c] at hq
        refine istx_k (K := 2) (by omega) (by rw [c57]; exact (lf2 c).1) (by decide) (by decide) ?_
        rw [if_pos (by decide)]
        exact hq
      · rw [if_neg (by omega), if_neg (by omega)] at hq
        have hnf : (if kd u n i = 2 ∧ slt L (vl u n i) = -1 then [ps u n i] else []) = [] := hnf
        have hs : ¬ slt L (vl u n i) = -1 := fun e => by
          rw [if_pos ⟨c, e⟩] at hnf
          cases hnf
        rcases fndA_r (fun k => (L.getD k (0, 0)).1) (vl u n i) L.length 0 with g | ⟨j, g1, g3, g4, -⟩
        · exact absurd g hs
        · have g1 : slt L (vl u n i) = (j : Int) := g1
          have tl := tyL hL
          have cu := cu1.2.2 j (by omega)
          have l30 := cu1.2.1
          have e57 : v 57 k = 3 := by rw [c57]; exact (lf3 c).1
          have e58 : v 58 k = (j : Int) := by rw [c58, (lf3 c).2, g1]
          unfold slT at hq
          rw [g1, if_neg (by omega), Int.toNat_natCast, ← tl.2 j (by omega), ← cu.2] at hq
          have t01 := cu.1.ty01
          rw [← cu.2] at t01
          refine s_240 ⟨⟨by omega, by omega⟩, ?_⟩
          rw [Int.toNat_natCast, e57, e58, cu2, wNat (k := P.length) (a := ((P.length + 1 : Nat) : Int) - 1) (by omega) (by omega), wNat (k := 30 * P.length) (a := 30 * (P.length : Int)) (by omega) (by omega), wNat (k := 30 * P.length + j) (a := ((30 * P.length : Nat) : Int) + (j : Int)) (by omega) (by omega), Int.toNat_natCast]
          exact ⟨fun q => absurd q (by decide), fun _ => ⟨fun _ => ⟨⟨by omega, by omega⟩, ⟨by omega, by omega⟩, t01, t01, hq⟩, fun q => absurd rfl q⟩⟩
    · rename_i i e1 _
      exact ih e1 (by simp at he; omega) hw lo hi y hr h33 hnf hq
    · rename_i i e1 _
      obtain ⟨k, y', rfl, k1, k2, k3, k4, k5, k6, k7⟩ := hr
      refine istx_k (K := if kd u n i = 45 then 5 else 6) (by omega) (by rw [c57]; exact k4) (by split <;> decide) (by split <;> decide) ?_
      rw [if_neg (by split <;> decide)]
      exact hq
    · rename_i i l r _
      obtain ⟨k, y', z', m, rfl, k1, k2, k3, k4, k5, k6, k7⟩ := hr
      have hq : Q (if kd u n i = 38 then 1 else 0) v := hq
      obtain ⟨q1, q2, q3, q4, q5, q6, q7⟩ := opc_c (k := kd u n i) rfl
      refine istx_k (K := opc (kd u n i)) (by omega) (by rw [c57]; exact k6) q2 q3 ?_
      by_cases c : kd u n i = 38
      · rw [if_pos c] at hq
        rw [if_pos (Or.inr (Or.inl (q1.mpr c)))]
        exact hq
      · rw [if_neg c] at hq
        rw [if_neg (fun q => by rcases q with q | q | q | q | q; exact q4 q; exact c (q1.mp q); exact q5 q; exact q6 q; exact q7 q)]
        exact hq
    · rename_i s e1 _
      obtain ⟨k, y', z', m, rfl, k1, k2, k3, k4, k5, k6, k7⟩ := hr
      refine istx_k (K := 19) (by omega) (by rw [c57]; exact k6) (by decide) (by decide) ?_
      rw [if_neg (by decide)]
      exact hq
    · rename_i s a b _
      obtain ⟨k, y', z', w', m, m', rfl, k1, k2, k3, k4, k5, k6, k7, k8, k9⟩ := hr
      refine istx_k (K := 20) (by omega) (by rw [c57]; exact k8) (by decide) (by decide) ?_
      rw [if_pos (by decide)]
      exact hq
    · rename_i i e1 _
      obtain ⟨k, y', rfl, k1, k2, k3, k4, k5, k6, k7⟩ := hr
      have hq : Q (if kd u n i = 18 then 0 else 1) v := hq
      refine istx_k (K := one1 (kd u n i)) (by omega) (by rw [c57]; exact k4) (by unfold one1; split; decide; split <;> decide) (by unfold one1; split; decide; split <;> decide) ?_
      unfold one1
      by_cases c : kd u n i = 18
      · rw [if_pos c] at hq
        rw [if_pos c, if_neg (by decide)]
        exact hq
      · rw [if_neg c] at hq
        rw [if_neg c]
        by_cases c1 : kd u n i = 11
        · rw [if_pos c1, if_pos (by decide)]; exact hq
        · rw [if_neg c1, if_pos (by decide)]; exact hq
    · rename_i i a b _
      obtain ⟨k, y', z', m, rfl, k1, k2, k3, k4, k5, k6, k7⟩ := hr
      refine istx_k (K := 22) (by omega) (by rw [c57]; exact k6) (by decide) (by decide) ?_
      rw [if_neg (by decide)]
      exact hq
    · rename_i i as _
      obtain ⟨k, rfl, k1, k2, k3, k4, k5⟩ := hr
      obtain ⟨n1, -, -⟩ := nf_call hnf
      obtain ⟨ci, f1, f2, -⟩ := fno_at n1
      have hq : Q (fnT G (vl u n i)) v := hq
      unfold fnT at hq
      rw [f1, if_neg (by omega), Int.toNat_natCast] at hq
      have g := hG.2 ci f2
      have g20 := hG.1
      have e57 : v 57 k = 4 := by rw [c57]; exact k3
      have e58 : v 58 k = (ci : Int) := by rw [c58, k4, f1]
      refine s_240 ⟨⟨by omega, by omega⟩, ?_⟩
      rw [Int.toNat_natCast, e57, e58, Int.toNat_natCast, c44, g.1]
      refine ⟨fun q => absurd q (by decide), fun _ => ⟨fun q => absurd q (by decide), fun _ => ⟨fun _ => ⟨⟨by omega, by omega⟩, ⟨by omega, by omega⟩, fun q => ?_, fun q => ?_⟩, fun q => absurd rfl q⟩⟩⟩
      · rw [q] at hq; exact hq
      · rcases g.2 with q2 | q2
        · rw [q2] at hq; exact hq
        · exact absurd q2 q
    · exact hw.elim
theorem iand_inj {a b : Int} (h1 : -128 ≤ a ∧ a < 128) (h2 : -128 ≤ b ∧ b < 128) : iand a 255 = iand b 255 ↔ a = b := by
  rw [iand_255 (by omega) (by omega), iand_255 (by omega) (by omega)]
  omega
theorem hlds_sg {k o p : Int} (h1 : o < 0 ↔ p < 0) (h2 : o = 0 ↔ p = 0) : hlds k o = hlds k p := by
  unfold hlds
  by_cases c1 : k = 60
  · rw [if_pos c1, if_pos c1]
    by_cases c : p < 0
    · rw [if_pos c, if_pos (h1.mpr c)]
    · rw [if_neg c, if_neg (fun q => c (h1.mp q))]
  rw [if_neg c1, if_neg c1]
  by_cases c2 : k = 161
  · rw [if_pos c2, if_pos c2]
    by_cases c : p = 0
    · rw [if_pos c, if_pos (h2.mpr c)]
    · rw [if_neg c, if_neg (fun q => c (h2.mp q))]
  rw [if_neg c2, if_neg c2]
  by_cases c3 : k = 189
  · rw [if_pos c3, if_pos c3]
    by_cases c : p = 0
    · rw [if_pos c, if_pos (h2.mpr c)]
    · rw [if_neg c, if_neg (fun q => c (h2.mp q))]
  rw [if_neg c3, if_neg c3]
  by_cases c : 0 < p
  · rw [if_pos c, if_pos (by omega)]
  · rw [if_neg c, if_neg (by omega)]
theorem w32_0 {a b : Int} (h1 : 0 ≤ a ∧ a < 256) (h2 : 0 ≤ b ∧ b < 256) : w32 (a - b) = a - b := w32_id (by omega) (by omega)
theorem RX.len {v0 v : Mem} {n z dp : Nat} {en : Int} {J : Jb} {FS : List Fr} {ρ : Rho} (h : RX v0 n z dp en J FS ρ v) (hn : n ≤ 3000) {r : Rw} {x y w : Int} (g : rrw J n r 1 x y w) : ∃ c : Nat, w = (c : Int) ∧ r.2.2 = (c : Int) ∧ c ≤ 4000 := by
  have q1 := g.t1.1
  rcases g with q | q | ⟨-, s, c, -, -, q2, -, -, q⟩ | ⟨-, j, hj, o, c, -, -, q2, -, -, q⟩
  · exact absurd q.1 (by decide)
  · exact ⟨0, q.2.2.2, by rw [q1]; exact q.2.2.2, by omega⟩
  · exact ⟨c, q, by rw [q1]; exact q, by omega⟩
  · have := h.1.sz hj
    have := h.1.1.2.2.1
    exact ⟨c, q, by rw [q1]; exact q, by omega⟩
theorem cmp_lp {t : Int} {d : Nat} {v0 v : Mem} {n z dp : Nat} {J : Jb} {P : List Fr} {Y X : List TyR} {e N : Nat} {ρ : Rho} {x r : Rw} {Q : Int → Mem → Prop} {tx : Nat → Int} (h : RX v0 n z dp 0 J (P ++ [(Y, e, X ++ [(x, 1), (r, 1)])]) ρ v) (htx : ∀ a, a < n → v0 40 a = tx a ∧ -128 ≤ tx a ∧ tx a < 128) (hn : n ≤ 3000) (hN : (tmps (P ++ [(Y, e, X)])).length = N) {cx cr : Nat} (hcx : v 68 N = (cx : Int)) (hcr : v 68 (N + 1) = (cr : Int)) (hc4 : cx ≤ 4000) : ∀ (m k : Nat), k + m = min cx cr → (∀ o : Int, (o < 0 ↔ (if alk (bt tx (rB ρ)) x.2.1.toNat r.2.1.toNat m k < min cx cr then cm3 (iand (bt tx (rB ρ) (x.2.1.toNat + alk (bt tx (rB ρ)) x.2.1.toNat r.2.1.toNat m k)) 255) (iand (bt tx (rB ρ) (r.2.1.toNat + alk (bt tx (rB ρ)) x.2.1.toNat r.2.1.toNat m k)) 255) else cm3 (cx : Int) (cr : Int)) < 0) → (o = 0 ↔ (if alk (bt tx (rB ρ)) x.2.1.toNat r.2.1.toNat m k < min cx cr then cm3 (iand (bt tx (rB ρ) (x.2.1.toNat + alk (bt tx (rB ρ)) x.2.1.toNat r.2.1.toNat m k)) 255) (iand (bt tx (rB ρ) (r.2.1.toNat + alk (bt tx (rB ρ)) x.2.1.toNat r.2.1.toNat m k)) 255) else cm3 (cx : Int) (cr : Int)) = 0) → Q o v) → LL t (d + 1) 242 67 [(2, 38), (3, 0), (0, ((min cx cr : Nat) : Int)), (0, (k : Int)), (3, 0)] [] v Q := by
  obtain ⟨e1, e2⟩ := h.n52
  rw [hN] at e1 e2
  have e1 : v 38 52 = ((N + 2 : Nat) : Int) := e1
  have e2 : N + 2 ≤ 1500 := e2
  have g := h.get (k := 0) (by show 0 < 2; decide)
  have g' := h.get (k := 1) (by show 1 < 2; decide)
  rw [hN, Nat.add_zero] at g
  rw [hN] at g'
  have g : rrw J n x 1 (v 66 N) (v 67 N) (v 68 N) := g
  have g' : rrw J n r 1 (v 66 (N + 1)) (v 67 (N + 1)) (v 68 (N + 1)) := g'
  have lx : ∀ p : Nat, x.1 = (p : Int) → 0 < cnt p (flat (P ++ [(Y, e, X ++ [(x, 1), (r, 1)])])) := fun p hp => live_T (x := (x, 1)) (mem_T (by simp)) hp
  have lr : ∀ p : Nat, r.1 = (p : Int) → 0 < cnt p (flat (P ++ [(Y, e, X ++ [(x, 1), (r, 1)])])) := fun p hp => live_T (x := (r, 1)) (mem_T (by simp)) hp
  intro m
  induction m with
  | zero =>
    intro k hk hq
    have ea : alk (bt tx (rB ρ)) x.2.1.toNat r.2.1.toNat 0 k = k := rfl
    rw [ea, if_neg (by omega)] at hq
    refine w_242_67 ⟨fun c => absurd c (by omega), fun _ => ?_⟩
    rw [e1, wtp (A := N + 2) (B := N) (j := 2) (by omega) (by omega) (by omega), wtp (A := N + 2) (B := N + 1) (j := 1) (by omega) (by omega) (by omega), Int.toNat_natCast, Int.toNat_natCast, hcx, hcr]
    exact ⟨⟨by omega, by omega⟩, ⟨by omega, by omega⟩, p_278 (hq _ Iff.rfl Iff.rfl)⟩
  | succ m ih =>
    intro k hk hq
    refine w_242_67 ⟨fun _ => ?_, fun c => absurd (by omega) c⟩
    rw [e1, wtp (A := N + 2) (B := N) (j := 2) (by omega) (by omega) (by omega)]
    refine byteOf_rr h htx hn (by omega) g lx (by omega) ?_
    rw [e1, wtp (A := N + 2) (B := N + 1) (j := 1) (by omega) (by omega) (by omega)]
    refine byteOf_rr h htx hn (by omega) g' lr (by omega) ?_
    have b1 := (h.byt htx hn g lx (i := k) (by omega)).1
    have b2 := (h.byt htx hn g' lr (i := k) (by omega)).1
    have i1 := iand_b (bt tx (rB ρ) (x.2.1.toNat + k))
    have i2 := iand_b (bt tx (rB ρ) (r.2.1.toNat + k))
    have ij := iand_inj b1 b2
    have ea : alk (bt tx (rB ρ)) x.2.1.toNat r.2.1.toNat (m + 1) k = if bt tx (rB ρ) (x.2.1.toNat + k) = bt tx (rB ρ) (r.2.1.toNat + k) then alk (bt tx (rB ρ)) x.2.1.toNat r.2.1.toNat m (k + 1) else k := rfl
    rw [w32_0 i1 i2, wm1 (by omega)]
    refine ⟨fun c => ?_, fun c => ?_⟩
    · have ea2 := ea.trans (if_pos (ij.mp (by omega)))
      rw [ea2] at hq
      exact ih (k + 1) (by omega) hq
    · have ea2 := ea.trans (if_neg (fun q => c (by rw [ij.mpr q]; omega)))
      rw [ea2, if_pos (by omega)] at hq
      refine hq _ ?_ ?_
      · unfold cm3
        split
        · omega
        · split <;> omega
      · unfold cm3
        split
        · omega
        · split <;> omega
/-- two are compared -/
theorem cmp_rr {t : Int} {d k : Nat} {v0 v : Mem} {n z dp : Nat} {J : Jb} {P : List Fr} {Y X : List TyR} {e : Nat} {ρ : Rho} {x r : Rw} {ty : Int} {Q : Int → Mem → Prop} {tx : Nat → Int} (h : RX v0 n z dp 0 J (P ++ [(Y, e, X ++ [(x, ty), (r, ty)])]) ρ v) (htx : ∀ a, a < n → v0 40 a = tx a ∧ -128 ≤ tx a ∧ tx a < 128) (hn : n ≤ 3000) (hk : k < 3300) (hi : ∀ Q' : Int → Mem → Prop, Q' ty v → RR t d 240 [(2, 38), (0, v 58 k)] v Q') (hq : ∀ o : Int, (o < 0 ↔ (if ty = 1 then ordT (bt tx (rB ρ)) x r else cm3 x.2.1 r.2.1) < 0) → (o = 0 ↔ (if ty = 1 then ordT (bt tx (rB ρ)) x r else cm3 x.2.1 r.2.1) = 0) → Q o v) : RR t (d + 1) 242 [(2, 38), (0, (k : Int))] v Q := by
  obtain ⟨e1, e2⟩ := h.n52
  generalize hN : (tmps (P ++ [(Y, e, X)])).length = N at *
  have e1 : v 38 52 = ((N + 2 : Nat) : Int) := e1
  have e2 : N + 2 ≤ 1500 := e2
  have g := h.get (k := 0) (by show 0 < 2; decide)
  have g' := h.get (k := 1) (by show 1 < 2; decide)
  rw [hN, Nat.add_zero] at g
  rw [hN] at g'
  have g : rrw J n x ty (v 66 N) (v 67 N) (v 68 N) := g
  have g' : rrw J n r ty (v 66 (N + 1)) (v 67 (N + 1)) (v 68 (N + 1)) := g'
  have nd : 0 ≤ (N : Int) ∧ (N : Int) < 1500 := ⟨by omega, by omega⟩
  have nd1 : 0 ≤ ((N + 1 : Nat) : Int) ∧ ((N + 1 : Nat) : Int) < 1500 := ⟨by omega, by omega⟩
  refine s_242 ⟨⟨by omega, by omega⟩, ?_⟩
  rw [Int.toNat_natCast]
  refine hi _ ?_
  rw [e1, wtp (A := N + 2) (B := N) (j := 2) (by omega) (by omega) (by omega), wtp (A := N + 2) (B := N + 1) (j := 1) (by omega) (by omega) (by omega), Int.toNat_natCast, Int.toNat_natCast]
  refine ⟨fun c => ⟨nd, nd1, ?_⟩, fun c => ⟨nd, nd1, ?_⟩⟩
  · subst c
    rw [if_neg (by decide)] at hq
    have q1 := (rrw.i0 g).1
    have q2 := (rrw.i0 g').1
    have q3 : x.2.1 = v 68 N := by rw [q1]
    have q4 : r.2.1 = v 68 (N + 1) := by rw [q2]
    rw [q3, q4] at hq
    exact hq _ Iff.rfl Iff.rfl
  · have c1 : ty = 1 := by
      rcases g.ty01 with q | q
      · exact absurd q c
      · exact q
    subst c1
    rw [if_pos rfl] at hq
    obtain ⟨cx, hcx, q1, hc4⟩ := h.len hn g
    obtain ⟨cr, hcr, q2, -⟩ := h.len hn g'
    have em : f_276 (v 68 N) (v 68 (N + 1)) v = ((min cx cr : Nat) : Int) := by
      unfold f_276
      rw [hcx, hcr]
      split <;> omega
    rw [em]
    refine cmp_lp h htx hn hN hcx hcr hc4 (min cx cr) 0 (by omega) ?_
    unfold ordT at hq
    rw [q1, q2, Int.toNat_natCast, Int.toNat_natCast] at hq
    exact hq
/-- == != < <= -/
theorem nm_cmp {t : Int} {d k : Nat} {v0 v : Mem} {n z dp : Nat} {J : Jb} {P : List Fr} {Y X : List TyR} {e : Nat} {ρ : Rho} {x r : Rw} {ty K : Int} {Q : Int → Mem → Prop} {tx : Nat → Int} (h : RX v0 n z dp 0 J (P ++ [(Y, e, X ++ [(x, ty), (r, ty)])]) ρ v) (htx : ∀ a, a < n → v0 40 a = tx a ∧ -128 ≤ tx a ∧ tx a < 128) (hn : n ≤ 3000) (hk : k < 3300) (hK : lvl K = 2) (hi : ∀ Q' : Int → Mem → Prop, Q' ty v → RR t (d + 1) 240 [(2, 38), (0, v 58 k)] v Q') (hq : KRe v0 n z dp P Y e X 0 Q (rtE (flat (P ++ [(Y, e, X)])) (-1, cmR (bt tx (rB ρ)) K ty x r, 0) ρ)) : RR t (d + 3) 239 [(2, 38), (0, (k : Int)), (0, opc K)] v Q := by
  have e1 := h.n52.1
  have e2 := h.n52.2
  generalize hN : (tmps (P ++ [(Y, e, X)])).length = N at *
  have e1 : v 38 52 = ((N + 2 : Nat) : Int) := e1
  have e2 : N + 2 ≤ 1500 := e2
  have hKs : K = 189 ∨ K = 161 ∨ K = 60 ∨ K = 188 := by
    unfold lvl at hK
    by_cases c1 : K = 20
    · rw [if_pos c1] at hK; omega
    rw [if_neg c1] at hK
    by_cases c2 : K = 10
    · rw [if_pos c2] at hK; omega
    rw [if_neg c2] at hK
    by_cases c3 : K = 189 ∨ K = 161 ∨ K = 60 ∨ K = 188
    · exact c3
    rw [if_neg c3] at hK
    split at hK
    · omega
    · split at hK <;> omega
  have key : ∀ (o b : Int), (o < 0 ↔ (if ty = 1 then ordT (bt tx (rB ρ)) x r else cm3 x.2.1 r.2.1) < 0) → (o = 0 ↔ (if ty = 1 then ordT (bt tx (rB ρ)) x r else cm3 x.2.1 r.2.1) = 0) → hlds K o = b → ∀ N' : Int, N' = (N : Int) → RR t (d + 1) 235 [(2, 38), (0, b)] (up v 38 52 N') (fun x v' => (x = 0 ∨ x = 1) ∧ Q x v') := by
    intro o b h1 h2 hb N' hN'
    subst hN'
    have e3 : cmR (bt tx (rB ρ)) K ty x r = b := by
      unfold cmR
      rw [← hlds_sg h1 h2]
      exact hb
    rw [e3] at hq
    rcases hlds_01 K o with q | q
    · rw [hb] at q
      exact psi_rr h hN (by omega) (by omega) (by omega) hq
    · rw [hb] at q
      exact psi_rr h hN (by omega) (by omega) (by omega) hq
  have eN : w32 (v 38 52 - 2) = (N : Int) → True := fun _ => trivial
  refine w_239 ?_
  rcases hKs with c | c | c | c
  · subst c
    refine ⟨fun c => absurd c (by decide), fun _ => ⟨fun c => absurd c (by decide), fun _ => ⟨fun c => absurd c (by decide), fun _ => cmp_rr h htx hn hk hi (fun o h1 h2 => ?_)⟩⟩⟩
    rw [e1, wtp (A := N + 2) (B := N) (j := 2) (by omega) (by omega) (by omega)]
    exact ⟨fun _ => ⟨fun c0 => w_237 ⟨fun q => absurd q (by decide), fun _ => RR.imp (key o 1 h1 h2 (by rw [c0]; rfl) _ rfl) (fun x v' g => ⟨g.1, g.1, g.2⟩)⟩, fun c0 => w_237 ⟨fun _ => RR.imp (key o 0 h1 h2 (by show (if o = 0 then _ else _) = _; rw [if_neg c0]) _ rfl) (fun x v' g => ⟨g.1, g.1, g.2⟩), fun q => absurd rfl q⟩⟩, fun c => absurd (by decide) c⟩
  · subst c
    refine ⟨fun c => absurd c (by decide), fun _ => ⟨fun c => absurd c (by decide), fun _ => ⟨fun c => absurd c (by decide), fun _ => cmp_rr h htx hn hk hi (fun o h1 h2 => ?_)⟩⟩⟩
    rw [e1, wtp (A := N + 2) (B := N) (j := 2) (by omega) (by omega) (by omega)]
    exact ⟨fun c => absurd c (by decide), fun _ => ⟨fun _ => ⟨fun c0 => w_237 ⟨fun _ => RR.imp (key o 0 h1 h2 (by show (if o = 0 then _ else _) = _; rw [if_pos c0]) _ rfl) (fun x v' g => ⟨g.1, g.1, g.2⟩), fun q => absurd rfl q⟩, fun c0 => w_237 ⟨fun q => absurd q (by decide), fun _ => RR.imp (key o 1 h1 h2 (by show (if o = 0 then _ else _) = _; rw [if_neg c0]) _ rfl) (fun x v' g => ⟨g.1, g.1, g.2⟩)⟩⟩, fun c => absurd (by decide) c⟩⟩
  · subst c
    refine ⟨fun c => absurd c (by decide), fun _ => ⟨fun c => absurd c (by decide), fun _ => ⟨fun c => absurd c (by decide), fun _ => cmp_rr h htx hn hk hi (fun o h1 h2 => ?_)⟩⟩⟩
    rw [e1, wtp (A := N + 2) (B := N) (j := 2) (by omega) (by omega) (by omega)]
    exact ⟨fun c => absurd c (by decide), fun _ => ⟨fun c => absurd c (by decide), fun _ => ⟨fun _ => ⟨fun c0 => w_237 ⟨fun q => absurd q (by decide), fun _ => RR.imp (key o 1 h1 h2 (by show (if o < 0 then _ else _) = _; rw [if_pos c0]) _ rfl) (fun x v' g => ⟨g.1, g.1, g.2⟩)⟩, fun c0 => w_237 ⟨fun _ => RR.imp (key o 0 h1 h2 (by show (if o < 0 then _ else _) = _; rw [if_neg c0]) _ rfl) (fun x v' g => ⟨g.1, g.1, g.2⟩), fun q => absurd rfl q⟩⟩, fun c => absurd (by decide) c⟩⟩⟩
  · subst c
    refine ⟨fun c => absurd c (by decide), fun _ => ⟨fun c => absurd c (by decide), fun _ => ⟨fun c => absurd c (by decide), fun _ => cmp_rr h htx hn hk hi (fun o h1 h2 => ?_)⟩⟩⟩
    rw [e1, wtp (A := N + 2) (B := N) (j := 2) (by omega) (by omega) (by omega)]
    exact ⟨fun c => absurd c (by decide), fun _ => ⟨fun c => absurd c (by decide), fun _ => ⟨fun c => absurd c (by decide), fun _ => ⟨fun c0 => w_237 ⟨fun _ => RR.imp (key o 0 h1 h2 (by show (if 0 < o then _ else _) = _; rw [if_pos c0]) _ rfl) (fun x v' g => ⟨g.1, g.1, g.2⟩), fun q => absurd rfl q⟩, fun c0 => w_237 ⟨fun q => absurd q (by decide), fun _ => RR.imp (key o 1 h1 h2 (by show (if 0 < o then _ else _) = _; rw [if_neg c0]) _ rfl) (fun x v' g => ⟨g.1, g.1, g.2⟩)⟩⟩⟩⟩⟩
