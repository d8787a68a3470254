/-! The reference: acts on texts that make no block. -/
theorem rrw.pos {J : Jb} {n : Nat} {r : Rw} {x y w : Int} (h : rrw J n r 1 x y w) (hw : 0 < w) : 0 ≤ r.2.1 := by
  rcases h with q | q | ⟨-, s, c, e, -⟩ | ⟨-, j, -, o, c, e, -⟩
  · exact absurd q.1 (by decide)
  · omega
  · rw [e]; show (0 : Int) ≤ (s : Int); omega
  · rw [e]; show (0 : Int) ≤ ((3000 + j.2.1 + o : Nat) : Int); omega
/-- t[i] -/
theorem tx_at {t : Int} {d : Nat} {v0 v : Mem} {n z dp : Nat} {J : Jb} {P : List Fr} {Y X : List TyR} {e : Nat} {ρ : Rho} {x r : Rw} {Q : Int → Mem → Prop} {tx : Nat → Int} {a1 : Int} (h : RX v0 n z dp 0 J (P ++ [(Y, e, X ++ [(x, 1), (r, 0)])]) ρ v) (htx : ∀ a, a < n → v0 40 a = tx a ∧ -128 ≤ tx a ∧ tx a < 128) (hn : n ≤ 3000) (hq : KRe v0 n z dp P Y e X 0 Q (rtE (flat (P ++ [(Y, e, X)])) (-1, byA (bt tx (rB ρ)) x r.2.1, 0) ρ)) : RR t (d + 2) 243 [(2, 38), (0, a1), (0, 19)] v Q := by
  have e1 := h.n52.1
  have e2 := h.n52.2
  generalize hN : (tmps (P ++ [(Y, e, X)])).length = N at *
  have e1 : v 38 52 = ((N + 2 : Nat) : Int) := e1
  have e2 : N + 2 ≤ 1500 := e2
  have g := h.get (k := 0) (by show 0 < 2; decide)
  have g' := h.get (k := 1) (by show 1 < 2; decide)
  rw [hN, Nat.add_zero] at g
  rw [hN] at g'
  have g : rrw J n x 1 (v 66 N) (v 67 N) (v 68 N) := g
  have g' : rrw J n r 0 (v 66 (N + 1)) (v 67 (N + 1)) (v 68 (N + 1)) := g'
  have hr : r.2.1 = v 68 (N + 1) := by rw [(rrw.i0 g').1]
  have hx : x.2.2 = v 68 N := g.t1.1
  have lx : ∀ p : Nat, x.1 = (p : Int) → 0 < cnt p (flat (P ++ [(Y, e, X ++ [(x, 1), (r, 0)])])) := fun p hp => live_T (x := (x, 1)) (mem_T (by simp)) hp
  unfold byA at hq
  rw [hr, hx] at hq
  have nd : 0 ≤ (N : Int) ∧ (N : Int) < 1500 := ⟨by omega, by omega⟩
  have nd1 : 0 ≤ ((N + 1 : Nat) : Int) ∧ ((N + 1 : Nat) : Int) < 1500 := ⟨by omega, by omega⟩
  refine w_243 ?_
  rw [e1, wtp (A := N + 2) (B := N) (j := 2) (by omega) (by omega) (by omega), wtp (A := N + 2) (B := N + 1) (j := 1) (by omega) (by omega) (by omega), Int.toNat_natCast, Int.toNat_natCast]
  refine ⟨fun c => absurd c (by decide), fun _ => ⟨fun c => absurd c (by decide), fun _ => ⟨fun c => absurd c (by decide), fun _ => ⟨fun c => absurd c (by decide), fun _ => ⟨fun _ => ⟨nd1, fun c => ?_, fun c => ⟨nd, fun c2 => ?_, fun c2 => ?_⟩⟩, fun c => absurd rfl c⟩⟩⟩⟩⟩
  · rw [if_pos c] at hq
    exact psi_rr h hN (by omega) (by decide) (by decide) hq
  · rw [if_neg c, if_pos c2] at hq
    obtain ⟨i, hi⟩ : ∃ i : Nat, v 68 (N + 1) = (i : Int) := ⟨(v 68 (N + 1)).toNat, by omega⟩
    rw [hi] at hq c2 ⊢
    have p0 := g.pos (by omega)
    refine byteOf_rr h htx hn (by omega) g lx c2 ?_
    rw [e1, wtp (A := N + 2) (B := N) (j := 2) (by omega) (by omega) (by omega)]
    rw [show (x.2.1 + (i : Int)).toNat = x.2.1.toNat + i from by omega] at hq
    have ib := iand_b (bt tx (rB ρ) (x.2.1.toNat + i))
    exact psi_rr h hN (by omega) (by omega) (by omega) hq
  · rw [if_neg c, if_neg c2] at hq
    exact psi_rr h hN (by omega) (by decide) (by decide) hq
/-- len -/
theorem tx_len {t : Int} {d : Nat} {v0 v : Mem} {n z dp : Nat} {J : Jb} {P : List Fr} {Y X : List TyR} {e : Nat} {ρ : Rho} {x : Rw} {Q : Int → Mem → Prop} {a1 : Int} (h : RX v0 n z dp 0 J (P ++ [(Y, e, X ++ [(x, 1)])]) ρ v) (hn : n ≤ 3000) (hq : KRe v0 n z dp P Y e X 0 Q (rtE (flat (P ++ [(Y, e, X)])) (-1, x.2.2, 0) ρ)) : RR t (d + 2) 243 [(2, 38), (0, a1), (0, 21)] v Q := by
  have e1 := h.n52.1
  have e2 := h.n52.2
  generalize hN : (tmps (P ++ [(Y, e, X)])).length = N at *
  have e1 : v 38 52 = ((N + 1 : Nat) : Int) := e1
  have e2 : N + 1 ≤ 1500 := e2
  have g := h.get (k := 0) (by show 0 < 1; decide)
  rw [hN, Nat.add_zero] at g
  have g : rrw J n x 1 (v 66 N) (v 67 N) (v 68 N) := g
  obtain ⟨c, hc, hc2, hc4⟩ := h.len hn g
  rw [hc2] at hq
  refine w_243 ?_
  rw [e1, wtp (A := N + 1) (B := N) (j := 1) (by omega) (by omega) (by omega), Int.toNat_natCast, hc]
  exact ⟨fun c => absurd c (by decide), fun _ => ⟨fun c => absurd c (by decide), fun _ => ⟨fun c => absurd c (by decide), fun _ => ⟨fun c => absurd c (by decide), fun _ => ⟨fun c => absurd c (by decide), fun _ => ⟨fun c => absurd c (by decide), fun _ => ⟨fun _ => ⟨⟨by omega, by omega⟩, psi_rr h hN (by omega) (by omega) (by omega) hq⟩, fun c => absurd rfl c⟩⟩⟩⟩⟩⟩⟩
theorem rrw_part {J : Jb} {n : Nat} {r : Rw} {x y w a b : Int} (h : rrw J n r 1 x y w) (h0 : 0 ≤ a) (h1 : a < b) (h2 : b ≤ w) : rrw J n (r.1, r.2.1 + a, b - a) 1 x (y + a) (b - a) := by
  rcases h with q | q | ⟨q, s, c, e, q1, q2, q3, q4, q5⟩ | ⟨q, j, hj, o, c, e, q1, q2, q3, q4, q5⟩
  · exact absurd q.1 (by decide)
  · omega
  · refine Or.inr (Or.inr (Or.inl ⟨q, s + a.toNat, (b - a).toNat, ?_, by omega, by omega, q3, by omega, by omega⟩))
    rw [e]
    show (((-1 : Int), (s : Int) + a, b - a) : Rw) = _
    rw [show (s : Int) + a = ((s + a.toNat : Nat) : Int) from by omega, show b - a = (((b - a).toNat : Nat) : Int) from by omega]
    rfl
  · refine Or.inr (Or.inr (Or.inr ⟨q, j, hj, o + a.toNat, (b - a).toNat, ?_, by omega, by omega, q3, by omega, by omega⟩))
    rw [e]
    show ((((j.2.1 : Nat) : Int), ((3000 + j.2.1 + o : Nat) : Int) + a, b - a) : Rw) = _
    rw [show ((3000 + j.2.1 + o : Nat) : Int) + a = ((3000 + j.2.1 + (o + a.toNat) : Nat) : Int) from by omega, show b - a = (((b - a).toNat : Nat) : Int) from by omega]
    rfl
theorem KRe.b01 {v0 : Mem} {n z dp : Nat} {P : List Fr} {Y X : List TyR} {e : Nat} {ty : Int} {Q : Int → Mem → Prop} {r : XE} (h : KRe v0 n z dp P Y e X ty Q r) : KRe v0 n z dp P Y e X ty (fun x v => (x = 0 ∨ x = 1) ∧ Q x v) r := by
  match r, h with
  | .error er, h => exact fun v' g => ⟨Or.inl rfl, h v' g⟩
  | .ok q, h => exact fun r1 J' v' e1 g => ⟨Or.inr rfl, h r1 J' v' e1 g⟩
theorem RX.yb {v0 v : Mem} {n z dp : Nat} {en : Int} {J : Jb} {FS : List Fr} {ρ : Rho} (h : RX v0 n z dp en J FS ρ v) (hn : n ≤ 3000) {r : Rw} {x y w : Int} (g : rrw J n r 1 x y w) (hw : 0 < w) : 0 ≤ y ∧ y ≤ 4000 := by
  rcases g with q | q | ⟨q, s, c, e, q1, q2, q3, q4, q5⟩ | ⟨q, j, hj, o, c, e, q1, q2, q3, q4, q5⟩
  · exact absurd q.1 (by decide)
  · omega
  · omega
  · have := h.1.sz hj
    have := h.1.1.2.2.1
    omega
theorem f275_clp {a c : Int} {v v' : Mem} : f_275 0 (f_276 a c v) v' = clp a c := rfl
theorem wpos {a b : Int} {v : Mem} (h1 : 0 ≤ a) (h2 : a ≤ b) (h3 : b ≤ 4000) : f_275 0 (w32 (b - a)) v = b - a := by
  rw [w32_id (by omega) (by omega)]
  unfold f_275
  split <;> omega
theorem wneg {a b : Int} {v : Mem} (h1 : 0 ≤ b) (h2 : b ≤ a) (h3 : a ≤ 4000) : f_275 0 (w32 (b - a)) v = 0 := by
  rw [w32_id (by omega) (by omega)]
  unfold f_275
  split <;> omega
/-- t[a : b] -/
theorem tx_part {t : Int} {d : Nat} {v0 v : Mem} {n z dp : Nat} {J : Jb} {P : List Fr} {Y X : List TyR} {e : Nat} {ρ : Rho} {x y r : Rw} {Q : Int → Mem → Prop} {a1 : Int} (h : RX v0 n z dp 0 J (P ++ [(Y, e, X ++ [(x, 1), (y, 0), (r, 0)])]) ρ v) (hn : n ≤ 3000) (hq : KRe v0 n z dp P Y e X 1 Q (rtE (flat (P ++ [(Y, e, X)])) (ptR x y.2.1 r.2.1) ρ)) : RR t (d + 2) 243 [(2, 38), (0, a1), (0, 20)] v Q := by
  have e1 := h.n52.1
  have e2 := h.n52.2
  generalize hN : (tmps (P ++ [(Y, e, X)])).length = N at *
  have e1 : v 38 52 = ((N + 3 : Nat) : Int) := e1
  have e2 : N + 3 ≤ 1500 := e2
  have g := h.get (k := 0) (by show 0 < 3; decide)
  have g1 := h.get (k := 1) (by show 1 < 3; decide)
  have g2 := h.get (k := 2) (by show 2 < 3; decide)
  rw [hN, Nat.add_zero] at g
  rw [hN] at g1 g2
  have g : rrw J n x 1 (v 66 N) (v 67 N) (v 68 N) := g
  have g1 : rrw J n y 0 (v 66 (N + 1)) (v 67 (N + 1)) (v 68 (N + 1)) := g1
  have g2 : rrw J n r 0 (v 66 (N + 2)) (v 67 (N + 2)) (v 68 (N + 2)) := g2
  have hy : y.2.1 = v 68 (N + 1) := by rw [(rrw.i0 g1).1]
  have hr : r.2.1 = v 68 (N + 2) := by rw [(rrw.i0 g2).1]
  have hx : x.2.2 = v 68 N := g.t1.1
  obtain ⟨c, hc, -, hc4⟩ := h.len hn g
  have lx : ∀ p : Nat, x.1 = (p : Int) → 0 < cnt p (flat (P ++ [(Y, e, X ++ [(x, 1), (y, 0), (r, 0)])])) := fun p hp => live_T (x := (x, 1)) (mem_T (by simp)) hp
  unfold ptR at hq
  rw [hy, hr, hx] at hq
  have ca := clp_b (a := v 68 (N + 1)) (c := v 68 N) (by omega)
  have cb := clp_b (a := v 68 (N + 2)) (c := v 68 N) (by omega)
  have nd : 0 ≤ (N : Int) ∧ (N : Int) < 1500 := ⟨by omega, by omega⟩
  have nd1 : 0 ≤ ((N + 1 : Nat) : Int) ∧ ((N + 1 : Nat) : Int) < 1500 := ⟨by omega, by omega⟩
  have nd2 : 0 ≤ ((N + 2 : Nat) : Int) ∧ ((N + 2 : Nat) : Int) < 1500 := ⟨by omega, by omega⟩
  refine w_243 ⟨fun c => absurd c (by decide), fun _ => ⟨fun c => absurd c (by decide), fun _ => ⟨fun c => absurd c (by decide), fun _ => ⟨fun c => absurd c (by decide), fun _ => ⟨fun c => absurd c (by decide), fun _ => ⟨fun _ => w_245 ?_, fun c => absurd rfl c⟩⟩⟩⟩⟩⟩
  rw [e1, wtp (A := N + 3) (B := N) (j := 3) (by omega) (by omega) (by omega), wtp (A := N + 3) (B := N + 1) (j := 2) (by omega) (by omega) (by omega), Int.toNat_natCast, Int.toNat_natCast]
  refine ⟨nd, nd1, p_276 (p_275 ?_)⟩
  rw [e1, wtp (A := N + 3) (B := N + 2) (j := 1) (by omega) (by omega) (by omega), Int.toNat_natCast]
  refine ⟨nd2, p_276 (p_275 ?_)⟩
  rw [e1, wtp (A := N + 3) (B := N) (j := 3) (by omega) (by omega) (by omega), Int.toNat_natCast, f275_clp, f275_clp]
  refine ⟨nd, nd, fun lt => p_275 ?_, fun lt => p_275 ?_⟩
  · rw [if_pos lt] at hq
    have yb := h.yb hn g (by omega)
    rw [wpos ca.1 (by omega) (by omega), w32_id (a := v 67 N + clp (v 68 (N + 1)) (v 68 N)) (by omega) (by omega)]
    exact psh_rr h hN (by omega) (rrw_part g ca.1 lt cb.2) (fun p hp => lx p hp) (fun v' k => ⟨Or.inr rfl, Or.inr rfl, hq.ret k⟩)
  · rw [if_neg lt] at hq
    rw [wneg cb.1 (by omega) (by omega)]
    exact psh_rr h hN (by omega) (Or.inr (Or.inl ⟨rfl, ⟨0, rfl, by decide, by decide⟩, rfl, rfl⟩)) (fun p hp => absurd hp (by show ¬ (-1 : Int) = _; omega)) (fun v' k => ⟨Or.inr rfl, Or.inr rfl, hq.ret k⟩)
/-- STEPS go by -/
theorem RX.stp {v0 v : Mem} {n z dp N : Nat} {J : Jb} {FS : List Fr} {ρ : Rho} (h : RX v0 n z dp 0 J FS ρ v) (hN : N ≤ 20000) : RX v0 n z dp 0 J FS (wN ρ N) (up v 38 68 (N : Int)) := by
  obtain ⟨a1, a2, a3, a4, a5, a6, a7⟩ := h
  obtain ⟨q1, q2, ⟨q3, q6, q7, q8⟩, ⟨q4, q9⟩, q5⟩ := a5
  refine ⟨a1.same (up_nk (by decide)) (up_nk (by decide)) (up_nk (by decide)) (fun c hc => up_ne (by omega)), a2, a3.same (up_nk (by decide)) (fun c hc => up_ne (by omega)), RLo.same (fun c hc => up_ne (by omega)) _ _ a4, ⟨?_, ?_, ⟨up_k, ?_, ?_, ?_⟩, ⟨hN, q9⟩, ?_⟩, fun b hb j hj => ?_, a7.trans (fun c _ c2 => up_ne c2) (fun k hk => up_nk (by omega))⟩
  · rw [up_nk (by decide), up_nk (by decide)]; exact q1
  · rw [up_nk (by decide), up_nk (by decide), up_nk (by decide)]; exact q2
  · rw [up_nk (by decide)]; exact q6
  · rw [up_nk (by decide)]; exact q7
  · rw [up_nk (by decide)]; exact q8
  · rw [up_ne (by decide)]; exact q5
  · rw [up_ne (by decide)]; exact a6 b hb j hj
theorem alk_ne {b : Nat → Int} {p q : Nat} : ∀ (m i : Nat), (alk b p q (m + 1) i = i + (m + 1) ↔ b (p + i) = b (q + i) ∧ alk b p q m (i + 1) = i + 1 + m) := by
  intro m i
  have ea : alk b p q (m + 1) i = if b (p + i) = b (q + i) then alk b p q m (i + 1) else i := rfl
  rw [ea]
  by_cases c : b (p + i) = b (q + i)
  · rw [if_pos c]
    exact ⟨fun h => ⟨c, by omega⟩, fun h => by omega⟩
  · rw [if_neg c]
    exact ⟨fun h => by omega, fun h => absurd h.1 c⟩
/-- whether a text stands at a place -/
theorem fnd_in {t : Int} {d : Nat} {v0 v : Mem} {n z dp : Nat} {J : Jb} {P : List Fr} {Y X : List TyR} {e N : Nat} {ρ : Rho} {x r : Rw} {Q : Int → Mem → Prop} {tx : Nat → Int} (h : RX v0 n z dp 0 J (P ++ [(Y, e, X ++ [(x, 1), (r, 1)])]) ρ v) (htx : ∀ a, a < n → v0 40 a = tx a ∧ -128 ≤ tx a ∧ tx a < 128) (hn : n ≤ 3000) (hN : (tmps (P ++ [(Y, e, X)])).length = N) {A M i : Nat} (hA : v 68 N = (A : Int)) (hM : v 68 (N + 1) = (M : Int)) (hA4 : A ≤ 4000) (hi : i + M ≤ A) : ∀ (m k : Nat), k + m = M → (alk (bt tx (rB ρ)) (x.2.1.toNat + i) r.2.1.toNat m k = k + m → LL t (d + 1) 246 64 [(2, 38), (0, (A : Int)), (0, (M : Int)), (0, (i : Int)), (0, ((i + 1 : Nat) : Int)), (3, 0), (3, 0)] [] v Q) → (¬ alk (bt tx (rB ρ)) (x.2.1.toNat + i) r.2.1.toNat m k = k + m → LL t (d + 1) 246 64 [(2, 38), (0, (A : Int)), (0, (M : Int)), (0, -1), (0, ((i + 1 : Nat) : Int)), (3, 0), (3, 0)] [] v Q) → LL t (d + 1) 246 82 [(2, 38), (0, (A : Int)), (0, (M : Int)), (3, 0), (0, (i : Int)), (0, 1), (0, (k : Int))] [] v Q := by
  obtain ⟨e1, e2⟩ := h.n52
  rw [hN] at e1 e2
  have e1 : v 38 52 = ((N + 2 : Nat) : Int) := e1
  have e2 : N + 2 ≤ 1500 := e2
  have g := h.get (k := 0) (by show 0 < 2; decide)
  have g' := h.get (k := 1) (by show 1 < 2; decide)
  rw [hN, Nat.add_zero] at g
  rw [hN] at g'
  have g : rrw J n x 1 (v 66 N) (v 67 N) (v 68 N) := g
  have g' : rrw J n r 1 (v 66 (N + 1)) (v 67 (N + 1)) (v 68 (N + 1)) := g'
  have lx : ∀ p : Nat, x.1 = (p : Int) → 0 < cnt p (flat (P ++ [(Y, e, X ++ [(x, 1), (r, 1)])])) := fun p hp => live_T (x := (x, 1)) (mem_T (by simp)) hp
  have lr : ∀ p : Nat, r.1 = (p : Int) → 0 < cnt p (flat (P ++ [(Y, e, X ++ [(x, 1), (r, 1)])])) := fun p hp => live_T (x := (r, 1)) (mem_T (by simp)) hp
  intro m
  induction m with
  | zero =>
    intro k hk h1 h2
    refine w_246_82 ⟨fun c => absurd c (by omega), fun _ => ⟨fun c => absurd c (by decide), fun _ => ?_⟩⟩
    rw [wm1 (by omega)]
    exact h1 rfl
  | succ m ih =>
    intro k hk h1 h2
    rw [alk_ne] at h1 h2
    refine w_246_82 ⟨fun _ => ⟨fun c => absurd c (by decide), fun _ => ?_⟩, fun c => absurd (by omega) c⟩
    rw [e1, wtp (A := N + 2) (B := N) (j := 2) (by omega) (by omega) (by omega), wNat (k := i + k) (a := (i : Int) + (k : Int)) (by omega) (by omega)]
    refine byteOf_rr h htx hn (by omega) g lx (by omega) ?_
    rw [e1, wtp (A := N + 2) (B := N + 1) (j := 1) (by omega) (by omega) (by omega)]
    refine byteOf_rr h htx hn (by omega) g' lr (by omega) ?_
    have b1 := (h.byt htx hn g lx (i := i + k) (by omega)).1
    have b2 := (h.byt htx hn g' lr (i := k) (by omega)).1
    have ij := iand_inj b1 b2
    rw [← Nat.add_assoc] at ij
    rw [← Nat.add_assoc, wm1 (by omega)]
    refine ⟨fun c => ih (k + 1) (by omega) (fun q => h1 ⟨ij.mp c, q⟩) (fun q => h2 (fun w => q w.2)), fun c => ?_⟩
    have h2' := h2 (fun w => c (ij.mpr w.1))
    refine w_246_82 ?_
    rw [wm1 (by omega)]
    exact ⟨fun _ => ⟨fun _ => ⟨fun _ => h2', fun c => absurd rfl c⟩, fun c => absurd rfl c⟩, fun _ => ⟨fun _ => h2', fun c => absurd rfl c⟩⟩
theorem fnd_out {t : Int} {d : Nat} {v0 v : Mem} {n z dp : Nat} {J : Jb} {P : List Fr} {Y X : List TyR} {e N : Nat} {ρ : Rho} {x r : Rw} {Q : Int → Mem → Prop} {tx : Nat → Int} (h : RX v0 n z dp 0 J (P ++ [(Y, e, X ++ [(x, 1), (r, 1)])]) ρ v) (htx : ∀ a, a < n → v0 40 a = tx a ∧ -128 ≤ tx a ∧ tx a < 128) (hn : n ≤ 3000) (hN : (tmps (P ++ [(Y, e, X)])).length = N) {A M : Nat} (hA : v 68 N = (A : Int)) (hM : v 68 (N + 1) = (M : Int)) (hA4 : A ≤ 4000) (hM4 : M ≤ 4000) : ∀ (j i : Nat), i + j = A + 1 - M → KRe v0 n z dp P Y e X 0 Q (rtE (flat (P ++ [(Y, e, X)])) (-1, fndB (bt tx (rB ρ)) x.2.1.toNat r.2.1.toNat M j i, 0) ρ) → LL t (d + 2) 246 64 [(2, 38), (0, (A : Int)), (0, (M : Int)), (0, -1), (0, (i : Int)), (3, 0), (3, 0)] [] v Q := by
  obtain ⟨e1, e2⟩ := h.n52
  rw [hN] at e1 e2
  have e1 : v 38 52 = ((N + 2 : Nat) : Int) := e1
  have e2 : N + 2 ≤ 1500 := e2
  intro j
  induction j with
  | zero =>
    intro i hi hq
    refine w_246_64 ?_
    rw [wNat (k := i + M) (a := (i : Int) + (M : Int)) (by omega) (by omega), e1, wtp (A := N + 2) (B := N) (j := 2) (by omega) (by omega) (by omega)]
    exact ⟨fun _ => psi_rr h hN (by omega) (by decide) (by decide) hq, fun c => absurd (by omega) c⟩
  | succ j ih =>
    intro i hi hq
    have ef : fndB (bt tx (rB ρ)) x.2.1.toNat r.2.1.toNat M (j + 1) i = if alk (bt tx (rB ρ)) (x.2.1.toNat + i) r.2.1.toNat M 0 = M then (i : Int) else fndB (bt tx (rB ρ)) x.2.1.toNat r.2.1.toNat M j (i + 1) := rfl
    rw [ef] at hq
    refine w_246_64 ?_
    rw [wNat (k := i + M) (a := (i : Int) + (M : Int)) (by omega) (by omega)]
    refine ⟨fun c => absurd c (by omega), fun _ => ⟨fun _ => fnd_in h htx hn hN hA hM hA4 (by omega) M 0 (by omega) (fun c => ?_) (fun c => ?_), fun c => absurd (by decide) c⟩⟩
    · rw [if_pos (by omega)] at hq
      refine w_246_64 ?_
      rw [wNat (k := i + 1 + M) (a := ((i + 1 : Nat) : Int) + (M : Int)) (by omega) (by omega), e1, wtp (A := N + 2) (B := N) (j := 2) (by omega) (by omega) (by omega)]
      exact ⟨fun _ => psi_rr h hN (by omega) (by omega) (by omega) hq, fun _ => ⟨fun c => absurd c (by omega), fun _ => psi_rr h hN (by omega) (by omega) (by omega) hq⟩⟩
    · rw [if_neg (by omega)] at hq
      exact ih (i + 1) (by omega) hq
/-- find -/
theorem tx_find {t : Int} {d : Nat} {v0 v : Mem} {n z dp : Nat} {J : Jb} {P : List Fr} {Y X : List TyR} {e : Nat} {ρ : Rho} {x r : Rw} {Q : Int → Mem → Prop} {tx : Nat → Int} {a1 : Int} (h : RX v0 n z dp 0 J (P ++ [(Y, e, X ++ [(x, 1), (r, 1)])]) ρ v) (htx : ∀ a, a < n → v0 40 a = tx a ∧ -128 ≤ tx a ∧ tx a < 128) (hn : n ≤ 3000) (hq : KRe v0 n z dp P Y e X 0 Q (fdE tx (flat (P ++ [(Y, e, X)])) x r ρ)) : RR t (d + 3) 243 [(2, 38), (0, a1), (0, 22)] v Q := by
  have e1 := h.n52.1
  have e2 := h.n52.2
  generalize hN : (tmps (P ++ [(Y, e, X)])).length = N at *
  have e1 : v 38 52 = ((N + 2 : Nat) : Int) := e1
  have e2 : N + 2 ≤ 1500 := e2
  have g := h.get (k := 0) (by show 0 < 2; decide)
  have g' := h.get (k := 1) (by show 1 < 2; decide)
  rw [hN, Nat.add_zero] at g
  rw [hN] at g'
  have g : rrw J n x 1 (v 66 N) (v 67 N) (v 68 N) := g
  have g' : rrw J n r 1 (v 66 (N + 1)) (v 67 (N + 1)) (v 68 (N + 1)) := g'
  obtain ⟨A, hA, hA2, hA4⟩ := h.len hn g
  obtain ⟨M, hM, hM2, hM4⟩ := h.len hn g'
  have nd : 0 ≤ (N : Int) ∧ (N : Int) < 1500 := ⟨by omega, by omega⟩
  have nd1 : 0 ≤ ((N + 1 : Nat) : Int) ∧ ((N + 1 : Nat) : Int) < 1500 := ⟨by omega, by omega⟩
  have e68 : v 38 68 = ((rN ρ : Nat) : Int) := h.2.2.2.2.1.2.2.1.1
  have hNN := h.2.2.2.2.1.2.2.2.1.1
  have hq := hq.b01
  unfold fdE fnR at hq
  rw [hA2, hM2, Int.toNat_natCast, Int.toNat_natCast] at hq
  refine w_243 ⟨fun c => absurd c (by decide), fun _ => ⟨fun c => absurd c (by decide), fun _ => ⟨fun c => absurd c (by decide), fun _ => ⟨fun c => absurd c (by decide), fun _ => ⟨fun c => absurd c (by decide), fun _ => ⟨fun c => absurd c (by decide), fun _ => ⟨fun c => absurd c (by decide), fun _ => ⟨fun _ => w_246 ?_, fun c => absurd rfl c⟩⟩⟩⟩⟩⟩⟩⟩
  rw [e1, wtp (A := N + 2) (B := N) (j := 2) (by omega) (by omega) (by omega), wtp (A := N + 2) (B := N + 1) (j := 1) (by omega) (by omega) (by omega), Int.toNat_natCast, Int.toNat_natCast, hA, hM, e68, wNat (k := rN ρ + A) (a := ((rN ρ : Nat) : Int) + (A : Int)) (by omega) (by omega)]
  refine ⟨nd, nd1, fun c => s_231 ?_, fun c => ?_⟩
  · rw [if_pos (by omega)] at hq
    exact ⟨Or.inl rfl, hq _ ((h.stp (N := 20000) (by omega)).err (k := 4))⟩
  · rw [if_neg (by omega)] at hq
    have h' := h.stp (N := rN ρ + A) (by omega)
    exact fnd_out (ρ := wN ρ (rN ρ + A)) h' htx hn hN (by rw [up_ne (by decide)]; exact hA) (by rw [up_ne (by decide)]; exact hM) hA4 hM4 (A + 1 - M) 0 (by omega) hq
