/-! The reference works an E out as evE says. -/
theorem RX.fx {v0 v : Mem} {n z dp : Nat} {en : Int} {J : Jb} {FS : List Fr} {ρ : Rho} (h : RX v0 n z dp en J FS ρ v) {c : Nat} (h1 : c < 66) (h2 : c ≠ 38) : v c = v0 c := h.2.2.2.2.2.2.1 c (Or.inl h1) h2
theorem KRe.bnd {v0 : Mem} {n z dp : Nat} {P : List Fr} {Y X X' : List TyR} {e : Nat} {ty ty1 : Int} {Q : Int → Mem → Prop} {C : Mem → Prop} {r : XE} {k : List Rw → Rho → XE} (h : KRe v0 n z dp P Y e X ty Q (bE r k)) (hk : ∀ r1 ρ1 J' v', r = .ok ([r1], ρ1) → KRe v0 n z dp P Y e X ty Q (k [r1] ρ1) → RX v0 n z dp 0 J' (P ++ [(Y, e, X' ++ [(r1, ty1)])]) ρ1 v' → C v') : KRe v0 n z dp P Y e X' ty1 (fun x v' => (x = 0 → ((0 : Int) = 0 ∨ (0 : Int) = 1) ∧ Q 0 v') ∧ (¬ x = 0 → C v')) r := by
  match r, h with
  | .error er, h => exact fun v' g => ⟨fun _ => ⟨Or.inl rfl, h v' g⟩, fun c => absurd rfl c⟩
  | .ok (q, ρ1), h =>
    intro r1 J' v' e1 g
    have e1 : q = [r1] := e1
    subst e1
    exact ⟨fun c => absurd c (by decide), fun _ => hk r1 ρ1 J' v' rfl h g⟩
theorem flat_loc {P : List Fr} {Y X : List TyR} {ex j : Nat} (hj : j < Y.length) : (flat (P ++ [(Y, ex, X)])).getD ((flat P).length + j) (-1, 0, 0) = (Y.getD j ((-1, 0, 0), 0)).1 := by
  rw [flat_1, gdA, gd_app1 (by rw [rws_len]; exact hj)]
  exact getD_mp (d := ((-1, 0, 0), 0)) Y j hj
theorem live_Y {P : List Fr} {Y X : List TyR} {ex : Nat} {x : TyR} (h : x ∈ Y) {p : Nat} (e : x.1.1 = (p : Int)) : 0 < cnt p (flat (P ++ [(Y, ex, X)])) := by
  rw [flat_1, cnt_app, cnt_app]
  have := cnt_in (rws Y) (List.mem_map.mpr ⟨x, h, rfl⟩) e
  omega
theorem psh0_rr {t : Int} {d : Nat} {v0 v : Mem} {n z dp : Nat} {J : Jb} {P : List Fr} {Y X : List TyR} {e : Nat} {ρ : Rho} {r : Rw} {ty x y w : Int} {Q : Int → Mem → Prop} (h : RX v0 n z dp 0 J (P ++ [(Y, e, X)]) ρ v) (hl : (tmps (P ++ [(Y, e, X)])).length < 1500) (hr : rrw J n r ty x y w) (hb : ∀ p : Nat, r.1 = (p : Int) → 0 < cnt p (flat (P ++ [(Y, e, X)]))) (hq : ∀ v', RX v0 n z dp 0 J (P ++ [(Y, e, X ++ [(r, ty)])]) ρ v' → Q 0 v') : RR t d 234 [(2, 38), (0, x), (0, y), (0, w)] v Q := by
  have e1 := h.n0
  generalize hN : (tmps (P ++ [(Y, e, X)])).length = N at *
  refine w_234 ?_
  rw [e1, Int.toNat_natCast, wm1 (by omega)]
  exact ⟨⟨by omega, by omega⟩, ⟨by omega, by omega⟩, ⟨by omega, by omega⟩, hq _ (h.push hN hl hr hb)⟩
/-- the reference works an E out as evE says -/
def HRe (t : Int) (v0 : Mem) (u : Nat → Int) (n z dp : Nat) (G : Fn) (tx : Nat → Int) (cl : XC) (F D : Nat) (e : Jvm.Term) : Prop := ∀ (P : List Fr) (Y X : List TyR) (ex : Nat) (L : Sc) (J : Jb) (ρ : Rho) (v : Mem) (lo hi : Nat) (x : Int) (d : Nat) (Q : Int → Mem → Prop), P.length = F → RX v0 n z dp 0 J (P ++ [(Y, ex, X)]) ρ v → Y.map (fun x => x.2) = L.map (fun x => x.2) → RN2 v0 u n G L e lo hi x → hi ≤ 3300 → nfE u n G L e = [] → tfE u n G L [] e = [] → rK ρ + sgn e ≤ 40 * rN ρ → (tmps (P ++ [(Y, ex, X)])).length + tdE 0 e ≤ 80 * (F + 1) → D + 2 * hgt e ≤ d → KRe v0 n z dp P Y ex X (tyE u n G L e) Q (evE u n G tx z cl (flat P).length L e (flat (P ++ [(Y, ex, X)])) ρ) → RR t d 238 [(2, 38), (0, x)] v Q
theorem he_arg {t : Int} {v0 : Mem} {u : Nat → Int} {b : Nat → Int} {n z dp : Nat} {G : Fn} {tx : Nat → Int} {cl : XC} {F D i : Nat} (hn : n ≤ 3000) (hu : u = uB b n) (hD : 3 ≤ D) : HRe t v0 u n z dp G tx cl F D (.arg i) := by
  intro P Y X ex L J ρ v lo hi x d Q hF h hL hr h33 hnf htf hK hT hd hq
  obtain ⟨d', rfl⟩ : ∃ d', d = d' + 2 := ⟨d - 2, by omega⟩
  have hT : (tmps (P ++ [(Y, ex, X)])).length + 1 ≤ 80 * (F + 1) := hT
  obtain ⟨cu1, cu2, cu3⟩ := h.cur
  obtain ⟨k, rfl, k1, k2, lf1, lf2, lf3, lf4⟩ := hr
  have c57 : v 57 = v0 57 := h.fx (by decide) (by decide)
  have c58 : v 58 = v0 58 := h.fx (by decide) (by decide)
  have c59 : v 59 = v0 59 := h.fx (by decide) (by decide)
  have hl : (tmps (P ++ [(Y, ex, X)])).length < 1500 := by omega
  have nd : 0 ≤ (k : Int) ∧ (k : Int) < 3300 := ⟨by omega, by omega⟩
  have hq : ∀ r1 J' v', [if kd u n i = 3 then (-1, vl u n i, 0) else if kd u n i = 4 then (-1, (ps u n i : Int) + 1, vl u n i) else (flat (P ++ [(Y, ex, X)])).getD ((flat P).length + (slt L (vl u n i)).toNat) (-1, 0, 0)] = [r1] → RX v0 n z dp 0 J' (P ++ [(Y, ex, X ++ [(r1, if kd u n i = 3 then 0 else if kd u n i = 4 then 1 else slT L (vl u n i))])]) ρ v' → Q 1 v' := hq
  refine w_238 ⟨nd, ?_⟩
  rw [Int.toNat_natCast, c57, c58, c59]
  rcases lf4 with c | c | c
  · rw [if_pos c, if_pos c] at hq
    obtain ⟨l1, l2⟩ := lf1 c
    have b3 := vl_num hu c
    rw [l1, l2]
    exact ⟨fun _ => ⟨nd, w_235 (psh0_rr h hl (rrw_int (y := 0) (by omega) (by omega)) (fun p hp => absurd hp (by show ¬ (-1 : Int) = _; omega)) (fun v' g => ⟨Or.inr rfl, Or.inr rfl, hq _ J v' rfl g⟩))⟩, fun c => absurd rfl c⟩
  · rw [if_neg (by omega), if_pos c, if_neg (by omega), if_pos c] at hq
    obtain ⟨l1, l2, l3⟩ := lf2 c
    obtain ⟨q, g1, g3⟩ := vl_q hu c
    rw [l1, l2, l3]
    refine ⟨fun c => absurd c (by decide), fun _ => ⟨fun _ => ⟨nd, fun c0 => ⟨nd, nd, ?_⟩, fun c0 => ⟨nd, nd, ?_⟩⟩, fun c => absurd rfl c⟩⟩
    · rw [c0] at hq ⊢
      exact psh0_rr h hl (Or.inr (Or.inl ⟨rfl, ⟨_, rfl, by omega, by omega⟩, rfl, rfl⟩)) (fun p hp => absurd hp (by show ¬ (-1 : Int) = _; omega)) (fun v' g => ⟨Or.inr rfl, hq _ J v' rfl g⟩)
    · rw [g1] at hq ⊢
      exact psh0_rr h hl (Or.inr (Or.inr (Or.inl ⟨rfl, ps u n i + 1, q, rfl, by omega, g3, rfl, rfl, rfl⟩))) (fun p hp => absurd hp (by show ¬ (-1 : Int) = _; omega)) (fun v' g => ⟨Or.inr rfl, hq _ J v' rfl g⟩)
  · rw [if_neg (by omega), if_neg (by omega), if_neg (by omega), if_neg (by omega)] at hq
    obtain ⟨l1, l2⟩ := lf3 c
    have hnf : (if kd u n i = 2 ∧ slt L (vl u n i) = -1 then [ps u n i] else []) = [] := hnf
    have hs : ¬ slt L (vl u n i) = -1 := fun e => by
      rw [if_pos ⟨c, e⟩] at hnf
      cases hnf
    rcases fndA_r (fun k => (L.getD k (0, 0)).1) (vl u n i) L.length 0 with g | ⟨j, g1, g3, g4, -⟩
    · exact absurd g hs
    · have g1 : slt L (vl u n i) = (j : Int) := g1
      have tl := tyL hL
      have cu := cu1.2.2 j (by omega)
      have l30 := cu1.2.1
      unfold slT at hq
      rw [g1, if_neg (by omega), Int.toNat_natCast, ← tl.2 j (by omega), flat_loc (by omega)] at hq
      rw [l1, l2, g1, cu2, wNat (k := P.length) (a := ((P.length + 1 : Nat) : Int) - 1) (by omega) (by omega), wNat (k := 30 * P.length) (a := 30 * (P.length : Int)) (by omega) (by omega), wNat (k := 30 * P.length + j) (a := ((30 * P.length : Nat) : Int) + (j : Int)) (by omega) (by omega), Int.toNat_natCast]
      have nl : 0 ≤ ((30 * P.length + j : Nat) : Int) ∧ ((30 * P.length + j : Nat) : Int) < 360 := ⟨by omega, by omega⟩
      exact ⟨fun c => absurd c (by decide), fun _ => ⟨fun c => absurd c (by decide), fun _ => ⟨fun _ => ⟨nd, nl, nl, nl, psh0_rr h hl cu.1 (fun p hp => live_Y (getD_mem (d := ((-1, 0, 0), 0)) Y j (by omega)) hp) (fun v' g => ⟨Or.inr rfl, hq _ J v' rfl g⟩)⟩, fun c => absurd rfl c⟩⟩⟩
/-- a node with two operands -/
theorem ev_two {t : Int} {d k : Nat} {v : Mem} {K : Int} {Q : Int → Mem → Prop} (hk : k < 3300) (h57 : v 57 k = K) (hK : (9 ≤ K ∧ K ≤ 20) ∨ K = 22) (he : RR t d 238 [(2, 38), (0, v 58 k)] v (fun x1 v1 => (x1 = 0 → ((0 : Int) = 0 ∨ (0 : Int) = 1) ∧ Q 0 v1) ∧ (¬ x1 = 0 → RR t d 238 [(2, 38), (0, v1 59 k)] v1 (fun x2 v2 => (x2 = 0 → ((0 : Int) = 0 ∨ (0 : Int) = 1) ∧ Q 0 v2) ∧ (¬ x2 = 0 → LL t (d + 1) 238 300 [(2, 38), (0, (k : Int)), (0, K), (3, 0)] [] v2 Q))))) : RR t (d + 1) 238 [(2, 38), (0, (k : Int))] v Q := by
  have nd : 0 ≤ (k : Int) ∧ (k : Int) < 3300 := ⟨by omega, by omega⟩
  refine w_238 ⟨nd, ?_⟩
  rw [Int.toNat_natCast, h57]
  refine ⟨fun c => absurd c (by omega), fun _ => ⟨fun c => absurd c (by omega), fun _ => ⟨fun c => absurd c (by omega), fun _ => ⟨fun c => absurd c (by omega), fun _ => ⟨nd, RR.imp he (fun x1 v1 g => ⟨g.1, fun c => ?_⟩)⟩⟩⟩⟩⟩
  have g2 := g.2 c
  have nx : LL t (d + 1) 238 277 [(2, 38), (0, (k : Int)), (0, K), (3, 0)] [] v1 Q := by
    refine w_238_277 (w_238_282 ⟨fun c => absurd c (by decide), fun _ => ⟨nd, ?_⟩⟩)
    rw [Int.toNat_natCast]
    exact g2
  refine ⟨fun c => absurd c (by omega), fun _ => ⟨fun c => absurd c (by omega), fun _ => ⟨fun c => absurd c (by omega), fun _ => ⟨fun c => w_238_271 ⟨fun _ => nx, fun c => absurd (by omega) c⟩, fun c => nx⟩⟩⟩⟩
/-- a node with one operand -/
theorem ev_one {t : Int} {d k : Nat} {v : Mem} {K : Int} {Q : Int → Mem → Prop} (hk : k < 3300) (h57 : v 57 k = K) (hK : K = 5 ∨ K = 6 ∨ K = 21 ∨ K = 23 ∨ K = 24) (he : RR t d 238 [(2, 38), (0, v 58 k)] v (fun x1 v1 => (x1 = 0 → ((0 : Int) = 0 ∨ (0 : Int) = 1) ∧ Q 0 v1) ∧ (¬ x1 = 0 → LL t (d + 1) 238 300 [(2, 38), (0, (k : Int)), (0, K), (3, 0)] [] v1 Q))) : RR t (d + 1) 238 [(2, 38), (0, (k : Int))] v Q := by
  have nd : 0 ≤ (k : Int) ∧ (k : Int) < 3300 := ⟨by omega, by omega⟩
  refine w_238 ⟨nd, ?_⟩
  rw [Int.toNat_natCast, h57]
  refine ⟨fun c => absurd c (by omega), fun _ => ⟨fun c => absurd c (by omega), fun _ => ⟨fun c => absurd c (by omega), fun _ => ⟨fun c => absurd c (by omega), fun _ => ⟨nd, RR.imp he (fun x1 v1 g => ⟨g.1, fun c => ?_⟩)⟩⟩⟩⟩⟩
  have g2 := g.2 c
  have nx : LL t (d + 1) 238 271 [(2, 38), (0, (k : Int)), (0, K), (3, 0)] [] v1 Q := w_238_271 ⟨fun c => absurd c (by omega), fun _ => w_238_282 ⟨fun _ => g2, fun c => absurd rfl c⟩⟩
  refine ⟨fun c => absurd c (by omega), fun _ => ⟨fun c => absurd c (by omega), fun _ => ⟨fun c => nx, fun _ => ⟨fun c => nx, fun c => absurd (by omega) c⟩⟩⟩⟩
theorem ev_num {t : Int} {d k : Nat} {v : Mem} {K : Int} {Q : Int → Mem → Prop} (hK : K < 15 ∨ K = 16 ∨ K = 17 ∨ K = 18) (h : RR t d 239 [(2, 38), (0, (k : Int)), (0, K)] v (fun x v' => (x = 0 ∨ x = 1) ∧ Q x v')) : LL t (d + 1) 238 300 [(2, 38), (0, (k : Int)), (0, K), (3, 0)] [] v Q := by
  refine w_238_300 ⟨fun c => absurd c (by omega), fun _ => ⟨fun _ => h, fun c1 => ⟨fun _ => h, fun c2 => ⟨fun _ => h, fun c3 => ⟨fun _ => h, fun c4 => absurd hK (by omega)⟩⟩⟩⟩⟩
theorem ev_txt {t : Int} {d k : Nat} {v : Mem} {K : Int} {Q : Int → Mem → Prop} (hK : ¬ (K < 15 ∨ K = 16 ∨ K = 17 ∨ K = 18)) (hK2 : ¬ K = 20) (h : RR t d 243 [(2, 38), (0, (k : Int)), (0, K)] v (fun x v' => (x = 0 ∨ x = 1) ∧ Q x v')) : LL t (d + 1) 238 300 [(2, 38), (0, (k : Int)), (0, K), (3, 0)] [] v Q := by
  refine w_238_300 ⟨fun c => absurd c hK2, fun _ => ⟨fun c => absurd c (by omega), fun c1 => ⟨fun c => absurd c (by omega), fun c2 => ⟨fun c => absurd c (by omega), fun c3 => ⟨fun c => absurd c (by omega), fun c4 => h⟩⟩⟩⟩⟩
theorem ev_prt {t : Int} {d k : Nat} {v : Mem} {Q : Int → Mem → Prop} (hk : k < 3300) (h : RR t d 238 [(2, 38), (0, v 60 k)] v (fun x v' => (x = 0 → ((0 : Int) = 0 ∨ (0 : Int) = 1) ∧ Q 0 v') ∧ (¬ x = 0 → RR t d 243 [(2, 38), (0, (k : Int)), (0, 20)] v' (fun x v' => (x = 0 ∨ x = 1) ∧ Q x v')))) : LL t (d + 1) 238 300 [(2, 38), (0, (k : Int)), (0, 20), (3, 0)] [] v Q := by
  refine w_238_300 ⟨fun _ => ⟨⟨by omega, by omega⟩, ?_⟩, fun c => absurd rfl c⟩
  rw [Int.toNat_natCast]
  exact RR.imp h (fun x v' g => ⟨g.1, fun c => ⟨fun c => absurd c (by decide), fun _ => ⟨fun c => absurd c (by decide), fun _ => ⟨fun c => absurd c (by decide), fun _ => ⟨fun c => absurd c (by decide), fun _ => g.2 c⟩⟩⟩⟩⟩)
