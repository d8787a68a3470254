/-! The reference: reckoning, comparing. -/
theorem psh_rr {t : Int} {d : Nat} {v0 v : Mem} {n z dp : Nat} {en : Int} {J : Jb} {P : List Fr} {Y X T : List TyR} {e N : Nat} {ρ : Rho} {r : Rw} {ty x y w : Int} {Q : Int → Mem → Prop} (h : RX v0 n z dp en J (P ++ [(Y, e, X ++ T)]) ρ v) (hN : (tmps (P ++ [(Y, e, X)])).length = N) (hl : N < 1500) (hr : rrw J n r ty x y w) (hb : ∀ p : Nat, r.1 = (p : Int) → 0 < cnt p (flat (P ++ [(Y, e, X ++ T)]))) (hq : ∀ v', RX v0 n z dp en J (P ++ [(Y, e, X ++ [(r, ty)])]) (wH ρ (gc (flat (P ++ [(Y, e, X ++ [(r, ty)])])) z0 (rH ρ))) v' → Q 0 v') : RR t d 234 [(2, 38), (0, x), (0, y), (0, w)] (up v 38 52 (N : Int)) Q := by
  refine w_234 ?_
  rw [up_k, Int.toNat_natCast, wm1 (by omega)]
  exact ⟨⟨by omega, by omega⟩, ⟨by omega, by omega⟩, ⟨by omega, by omega⟩, hq _ (h.topp hN hl hr hb)⟩
theorem psi_rr {t : Int} {d : Nat} {v0 v : Mem} {n z dp : Nat} {J : Jb} {P : List Fr} {Y X T : List TyR} {e N : Nat} {ρ : Rho} {a : Int} {Q : Int → Mem → Prop} (h : RX v0 n z dp 0 J (P ++ [(Y, e, X ++ T)]) ρ v) (hN : (tmps (P ++ [(Y, e, X)])).length = N) (hl : N < 1500) (h1 : -2147483648 ≤ a) (h2 : a < 2147483648) (hq : KRe v0 n z dp P Y e X 0 Q (rtE (flat (P ++ [(Y, e, X)])) (-1, a, 0) ρ)) : RR t (d + 1) 235 [(2, 38), (0, a)] (up v 38 52 (N : Int)) (fun x v' => (x = 0 ∨ x = 1) ∧ Q x v') := w_235 (psh_rr h hN hl (rrw_int (y := 0) h1 h2) (fun p hp => absurd hp (by show ¬ (-1 : Int) = _; omega)) (fun v' g => ⟨Or.inr rfl, Or.inr rfl, hq.ret g⟩))
theorem byteOf_rr {t : Int} {d : Nat} {v0 v : Mem} {n z dp : Nat} {en : Int} {J : Jb} {FS : List Fr} {ρ : Rho} {tx : Nat → Int} {Q : Int → Mem → Prop} (h : RX v0 n z dp en J FS ρ v) (htx : ∀ a, a < n → v0 40 a = tx a ∧ -128 ≤ tx a ∧ tx a < 128) (hn : n ≤ 3000) {r : Rw} {k i : Nat} (hk : k < 1500) (hr : rrw J n r 1 (v 66 k) (v 67 k) (v 68 k)) (hb : ∀ p : Nat, r.1 = (p : Int) → 0 < cnt p (flat FS)) (hi : (i : Int) < v 68 k) (hq : Q (iand (bt tx (rB ρ) (r.2.1.toNat + i)) 255) v) : RR t d 236 [(2, 38), (0, (k : Int)), (0, (i : Int))] v Q := by
  have nd : 0 ≤ (k : Int) ∧ (k : Int) < 1500 := ⟨by omega, by omega⟩
  refine w_236 ⟨nd, ?_⟩
  rw [Int.toNat_natCast]
  rcases (h.byt htx hn hr hb hi).2 with ⟨e1, a, e2, e3, e4⟩ | ⟨id, a, b, e1, e2, e3, e4, e5, e6⟩
  · refine ⟨fun _ => ⟨nd, ?_⟩, fun c => absurd e1 c⟩
    rw [e2, wNat (k := a + i) (a := (a : Int) + (i : Int)) (by omega) (by omega), Int.toNat_natCast, e4]
    exact ⟨⟨by omega, by omega⟩, hq⟩
  · refine ⟨fun c => absurd c (by omega), fun _ => ⟨nd, ?_⟩⟩
    rw [e1, Int.toNat_natCast, e3, e4, wNat (k := b + a) (a := (b : Int) + (a : Int)) (by omega) (by omega), wNat (k := b + a + i) (a := ((b + a : Nat) : Int) + (i : Int)) (by omega) (by omega), Int.toNat_natCast, e6]
    exact ⟨⟨by omega, by omega⟩, nd, ⟨by omega, by omega⟩, hq⟩
/-- + - * / % -/
theorem nm_ar {t : Int} {d : Nat} {v0 v : Mem} {n z dp : Nat} {J : Jb} {P : List Fr} {Y X : List TyR} {e : Nat} {ρ : Rho} {x r : Rw} {Q : Int → Mem → Prop} {a1 k : Int} (hk : k = 42 ∨ k = 43 ∨ k = 45 ∨ k = 47 ∨ k = 37) (h : RX v0 n z dp 0 J (P ++ [(Y, e, X ++ [(x, 0), (r, 0)])]) ρ v) (hq : KRe v0 n z dp P Y e X 0 Q (if (k = 47 ∨ k = 37) ∧ r.2.1 = 0 then .error (1, ρ) else rtE (flat (P ++ [(Y, e, X)])) (-1, rkn k x.2.1 r.2.1, 0) ρ)) : RR t (d + 2) 239 [(2, 38), (0, a1), (0, opc k)] v Q := by
  obtain ⟨e1, e2⟩ := h.n52
  have e1 : v 38 52 = (((tmps (P ++ [(Y, e, X)])).length + 2 : Nat) : Int) := e1
  have e2 : (tmps (P ++ [(Y, e, X)])).length + 2 ≤ 1500 := e2
  generalize hN : (tmps (P ++ [(Y, e, X)])).length = N at *
  have g := h.get (k := 0) (by show 0 < 2; decide)
  have g' := h.get (k := 1) (by show 1 < 2; decide)
  rw [hN, Nat.add_zero] at g
  rw [hN] at g'
  obtain ⟨g1, g2, g3, g4⟩ := rrw.i0 g
  obtain ⟨g1', g2', g3', g4'⟩ := rrw.i0 g'
  have g1 : x = (-1, v 68 N, 0) := g1
  have g1' : r = (-1, v 68 (N + 1), 0) := g1'
  have hx : x.2.1 = v 68 N := by rw [g1]
  have hr : r.2.1 = v 68 (N + 1) := by rw [g1']
  rw [hx, hr] at hq
  have nd : 0 ≤ (N : Int) ∧ (N : Int) < 1500 := ⟨by omega, by omega⟩
  have nd1 : 0 ≤ ((N + 1 : Nat) : Int) ∧ ((N + 1 : Nat) : Int) < 1500 := ⟨by omega, by omega⟩
  have rb := fun b : Int => rkn_b (k := k) (a := v 68 N) (b := b) ⟨g3, g4⟩
  have key : ¬ ((k = 47 ∨ k = 37) ∧ v 68 (N + 1) = 0) → RR t (d + 1) 235 [(2, 38), (0, rkn k (v 68 N) (v 68 (N + 1)))] (up v 38 52 (N : Int)) (fun x v' => (x = 0 ∨ x = 1) ∧ Q x v') := fun c => by
    rw [if_neg c] at hq
    exact psi_rr h hN (by omega) (rb _).1 (rb _).2 hq
  have ker : (k = 47 ∨ k = 37) ∧ v 68 (N + 1) = 0 → RR t (d + 1) 231 [(2, 38), (0, 1)] v (fun x v' => (x = 0 ∨ x = 1) ∧ Q x v') := fun c => by
    rw [if_pos c] at hq
    exact s_231 ⟨Or.inl rfl, hq _ h.err⟩
  clear hq rb g g' e1
  have e1 : v 38 52 = ((N + 2 : Nat) : Int) := by
    have := h.n52.1
    rw [hN] at this
    exact this
  refine w_239 ?_
  rw [e1, wtp (A := N + 2) (B := N) (j := 2) (by omega) (by omega) (by omega), wtp (A := N + 2) (B := N + 1) (j := 1) (by omega) (by omega) (by omega), Int.toNat_natCast, Int.toNat_natCast]
  rcases hk with c | c | c | c | c
  · subst c
    exact ⟨fun c => absurd c (by decide), fun _ => ⟨fun c => absurd c (by decide), fun _ => ⟨fun _ => ⟨nd, nd1, fun c => absurd c (by decide), fun _ => ⟨fun c => absurd c (by decide), fun _ => ⟨fun c => absurd c (by decide), fun _ => ⟨fun c => absurd c (by decide), fun _ => ⟨fun _ => key (by omega), fun c => absurd (by decide) c⟩⟩⟩⟩⟩, fun c => absurd (by decide) c⟩⟩⟩
  · subst c
    exact ⟨fun c => absurd c (by decide), fun _ => ⟨fun c => absurd c (by decide), fun _ => ⟨fun _ => ⟨nd, nd1, fun c => absurd c (by decide), fun _ => ⟨fun c => absurd c (by decide), fun _ => ⟨fun _ => key (by omega), fun c => absurd (by decide) c⟩⟩⟩, fun c => absurd (by decide) c⟩⟩⟩
  · subst c
    exact ⟨fun c => absurd c (by decide), fun _ => ⟨fun c => absurd c (by decide), fun _ => ⟨fun _ => ⟨nd, nd1, fun c => absurd c (by decide), fun _ => ⟨fun c => absurd c (by decide), fun _ => ⟨fun c => absurd c (by decide), fun _ => ⟨fun _ => key (by omega), fun c => absurd (by decide) c⟩⟩⟩⟩, fun c => absurd (by decide) c⟩⟩⟩
  · subst c
    exact ⟨fun c => absurd c (by decide), fun _ => ⟨fun c => absurd c (by decide), fun _ => ⟨fun _ => ⟨nd, nd1, fun _ => ⟨fun z => ker ⟨Or.inl rfl, z⟩, fun nz => ⟨fun c => absurd c (by decide), fun _ => ⟨fun c => absurd c (by decide), fun _ => ⟨fun c => absurd c (by decide), fun _ => ⟨fun _ => ⟨nz, key (fun q => nz q.2)⟩, fun c => absurd (by decide) c⟩⟩⟩⟩⟩, fun c => absurd (by decide) c⟩, fun c => absurd (by decide) c⟩⟩⟩
  · subst c
    exact ⟨fun c => absurd c (by decide), fun _ => ⟨fun c => absurd c (by decide), fun _ => ⟨fun _ => ⟨nd, nd1, fun c => absurd c (by decide), fun _ => ⟨fun _ => ⟨fun z => ker ⟨Or.inr rfl, z⟩, fun nz => ⟨fun c => absurd c (by decide), fun _ => ⟨fun c => absurd c (by decide), fun _ => ⟨fun c => absurd c (by decide), fun _ => ⟨fun c => absurd c (by decide), fun _ => ⟨nz, key (fun q => nz q.2)⟩⟩⟩⟩⟩⟩, fun c => absurd (by decide) c⟩⟩, fun c => absurd (by decide) c⟩⟩⟩
/-- isText, by the kind of a node -/
theorem istx_k {t : Int} {d k : Nat} {v : Mem} {K : Int} {Q : Int → Mem → Prop} (hk : k < 3300) (h57 : v 57 k = K) (h3 : ¬ K = 3) (h4 : ¬ K = 4) (hq : Q (if K = 2 ∨ K = 15 ∨ K = 20 ∨ K = 23 ∨ K = 24 then 1 else 0) v) : RR t (d + 1) 240 [(2, 38), (0, (k : Int))] v Q := by
  refine s_240 ⟨⟨by omega, by omega⟩, ?_⟩
  rw [Int.toNat_natCast, h57]
  refine ⟨fun c => ?_, fun c2 => ⟨fun c => absurd c h3, fun c3 => ⟨fun c => absurd c h4, fun c4 => ?_⟩⟩⟩
  · rw [if_pos (by omega)] at hq
    exact hq
  · repeat' (refine And.intro (fun c => ?_) (fun c => ?_))
    all_goals first | (rw [if_pos (by omega)] at hq; exact hq) | (rw [if_neg (by omega)] at hq; exact hq)
