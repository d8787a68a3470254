/-! The reference: acts on the top of the stack, ints. -/
/-- what is to follow behind an E -/
def KRe (v0 : Mem) (n z dp : Nat) (P : List Fr) (Y : List TyR) (e : Nat) (X : List TyR) (ty : Int) (Q : Int → Mem → Prop) (r : XE) : Prop := match r with
  | .error er => ∀ v', RE v0 n z dp er v' → Q 0 v'
  | .ok q => ∀ r1 J' v', q.1 = [r1] → RX v0 n z dp 0 J' (P ++ [(Y, e, X ++ [(r1, ty)])]) q.2 v' → Q 1 v'
theorem KRe.ret {v0 v' : Mem} {n z dp : Nat} {P : List Fr} {Y X : List TyR} {e : Nat} {ty : Int} {Q : Int → Mem → Prop} {r1 : Rw} {ρ : Rho} {J : Jb} (h : KRe v0 n z dp P Y e X ty Q (rtE (flat (P ++ [(Y, e, X)])) r1 ρ)) (hx : RX v0 n z dp 0 J (P ++ [(Y, e, X ++ [(r1, ty)])]) (wH ρ (gc (flat (P ++ [(Y, e, X ++ [(r1, ty)])])) z0 (rH ρ))) v') : Q 1 v' := by
  refine h r1 J v' rfl ?_
  rw [flat_T (T := [(r1, ty)])] at hx
  exact hx
theorem RX.err {v0 v : Mem} {n z dp : Nat} {J : Jb} {FS : List Fr} {ρ : Rho} {k : Int} (h : RX v0 n z dp 0 J FS ρ v) : RE v0 n z dp (k, ρ) (up v 38 66 k) := by
  obtain ⟨a1, a2, a3, a4, a5, a6, a7⟩ := h
  obtain ⟨q1, ⟨q2, q2', q2''⟩, q3, q4, q5⟩ := a5
  refine ⟨J, FS, a1.same (up_nk (by decide)) (up_nk (by decide)) (up_nk (by decide)) (fun c hc => up_ne (by omega)), a2, a3.same (up_nk (by decide)) (fun c hc => up_ne (by omega)), RLo.same (fun c hc => up_ne (by omega)) _ _ a4, ⟨?_, ⟨up_k, ?_, ?_⟩, ?_, q4, ?_⟩, fun b hb j hj => ?_, a7.trans (fun c _ c2 => up_ne c2) (fun k hk => up_nk (by omega))⟩
  · rw [up_nk (by decide), up_nk (by decide)]; exact q1
  · rw [up_nk (by decide)]; exact q2'
  · rw [up_nk (by decide)]; exact q2''
  · rw [up_nk (by decide), up_nk (by decide), up_nk (by decide), up_nk (by decide)]; exact q3
  · rw [up_ne (by decide)]; exact q5
  · rw [up_ne (by decide)]; exact a6 b hb j hj
theorem RX.n52 {v0 v : Mem} {n z dp : Nat} {en : Int} {J : Jb} {P : List Fr} {Y X T : List TyR} {e : Nat} {ρ : Rho} (h : RX v0 n z dp en J (P ++ [(Y, e, X ++ T)]) ρ v) : v 38 52 = (((tmps (P ++ [(Y, e, X)])).length + T.length : Nat) : Int) ∧ (tmps (P ++ [(Y, e, X)])).length + T.length ≤ 1500 := by
  have a := h.2.2.1
  refine ⟨?_, ?_⟩
  · rw [a.1, tmps_T, List.length_append]
  · have := a.2.1
    rw [tmps_T, List.length_append] at this
    exact this
theorem RX.n0 {v0 v : Mem} {n z dp : Nat} {en : Int} {J : Jb} {FS : List Fr} {ρ : Rho} (h : RX v0 n z dp en J FS ρ v) : v 38 52 = (((tmps FS).length : Nat) : Int) := h.2.2.1.1
/-- a row of the parts refers to what is live -/
theorem live_T {FS : List Fr} {x : TyR} (h : x ∈ tmps FS) {p : Nat} (e : x.1.1 = (p : Int)) : 0 < cnt p (flat FS) := by
  rw [cnt_flat]
  have := cnt_in (rws (tmps FS)) (List.mem_map.mpr ⟨x, h, rfl⟩) e
  omega
theorem mem_T {P : List Fr} {Y X T : List TyR} {e : Nat} {x : TyR} (h : x ∈ T) : x ∈ tmps (P ++ [(Y, e, X ++ T)]) := by
  rw [tmps_T]
  exact List.mem_append.mpr (Or.inr h)
theorem rrw.i0 {J : Jb} {n : Nat} {r : Rw} {x y w : Int} (h : rrw J n r 0 x y w) : r = (-1, w, 0) ∧ x = -1 ∧ -2147483648 ≤ w ∧ w < 2147483648 := by
  rcases h with h | h | h | h
  · exact h.2
  · exact absurd h.1 (by decide)
  · exact absurd h.1 (by decide)
  · exact absurd h.1 (by decide)
theorem rrw.t1 {J : Jb} {n : Nat} {r : Rw} {x y w : Int} (h : rrw J n r 1 x y w) : r.2.2 = w ∧ (w = 0 → x = -1 ∧ r.1 = -1) := by
  rcases h with h | ⟨-, ⟨a, e, -⟩, h2, h3⟩ | ⟨-, s, c, e, h1, -, -, -, h3⟩ | ⟨-, j, hj, o, c, e, h1, -, -, -, h3⟩
  · exact absurd h.1 (by decide)
  · rw [e, h3]; exact ⟨rfl, fun _ => ⟨h2, rfl⟩⟩
  · rw [e, h3]; exact ⟨rfl, fun q => absurd q (by omega)⟩
  · rw [e, h3]; exact ⟨rfl, fun q => absurd q (by omega)⟩
theorem rrw_int {J : Jb} {n : Nat} {a y : Int} (h1 : -2147483648 ≤ a) (h2 : a < 2147483648) : rrw J n (-1, a, 0) 0 (-1) y a := Or.inl ⟨rfl, rfl, rfl, h1, h2⟩
theorem wtp {A B : Nat} {j : Int} (hA : A ≤ 1500) (h : (A : Int) - j = (B : Int)) (hB : B ≤ 5000) : w32 ((A : Int) - j) = (B : Int) := wNat h (by omega)
/-- rows T go, the row x y w comes: as the reference writes it -/
theorem RX.topp {v0 v : Mem} {n z dp : Nat} {en : Int} {J : Jb} {P : List Fr} {Y X T : List TyR} {e N : Nat} {ρ : Rho} {r : Rw} {ty x y w : Int} (h : RX v0 n z dp en J (P ++ [(Y, e, X ++ T)]) ρ v) (hN : (tmps (P ++ [(Y, e, X)])).length = N) (hl : N < 1500) (hr : rrw J n r ty x y w) (hb : ∀ p : Nat, r.1 = (p : Int) → 0 < cnt p (flat (P ++ [(Y, e, X ++ T)]))) :
    RX v0 n z dp en J (P ++ [(Y, e, X ++ [(r, ty)])]) (wH ρ (gc (flat (P ++ [(Y, e, X ++ [(r, ty)])])) z0 (rH ρ))) (up (up (up (up (up v 38 52 (N : Int)) 66 N x) 67 N y) 68 N w) 38 52 ((N + 1 : Nat) : Int)) := by
  subst hN
  refine h.put hr hb hl up_k (fun k hk => ?_) (fun c c1 c2 c3 c4 => ?_) (fun c i hc hi => ?_) ?_ ?_ ?_
  · rw [up_nk hk, up_ne (by decide), up_ne (by decide), up_ne (by decide), up_nk hk]
  · rw [up_ne c1, up_ne c4, up_ne c3, up_ne c2, up_ne c1]
  · rcases hc with e1 | e1 | e1
    · subst e1; rw [up_ne (by decide), up_ne (by decide), up_ne (by decide), up_nk (by omega), up_ne (by decide)]
    · subst e1; rw [up_ne (by decide), up_ne (by decide), up_nk (by omega), up_ne (by decide), up_ne (by decide)]
    · subst e1; rw [up_ne (by decide), up_nk (by omega), up_ne (by decide), up_ne (by decide), up_ne (by decide)]
  · rw [up_ne (by decide), up_ne (by decide), up_ne (by decide), up_k]
  · rw [up_ne (by decide), up_ne (by decide), up_k]
  · rw [up_ne (by decide), up_k]
/-- a row more -/
theorem RX.push {v0 v : Mem} {n z dp : Nat} {en : Int} {J : Jb} {P : List Fr} {Y X : List TyR} {e N : Nat} {ρ : Rho} {r : Rw} {ty x y w : Int} (h : RX v0 n z dp en J (P ++ [(Y, e, X)]) ρ v) (hN : (tmps (P ++ [(Y, e, X)])).length = N) (hl : N < 1500) (hr : rrw J n r ty x y w) (hb : ∀ p : Nat, r.1 = (p : Int) → 0 < cnt p (flat (P ++ [(Y, e, X)]))) :
    RX v0 n z dp en J (P ++ [(Y, e, X ++ [(r, ty)])]) ρ (up (up (up (up v 66 N x) 67 N y) 68 N w) 38 52 ((N + 1 : Nat) : Int)) := by
  subst hN
  have h0 : RX v0 n z dp en J (P ++ [(Y, e, X ++ [])]) ρ v := by rw [List.append_nil]; exact h
  have q := h0.put (v' := up (up (up (up v 66 (tmps (P ++ [(Y, e, X)])).length x) 67 (tmps (P ++ [(Y, e, X)])).length y) 68 (tmps (P ++ [(Y, e, X)])).length w) 38 52 (((tmps (P ++ [(Y, e, X)])).length + 1 : Nat) : Int)) hr (by rw [List.append_nil]; exact hb) hl up_k (fun k hk => by rw [up_nk hk, up_ne (by decide), up_ne (by decide), up_ne (by decide)]) (fun c c1 c2 c3 c4 => by rw [up_ne c1, up_ne c4, up_ne c3, up_ne c2]) (fun c i hc hi => by
    rcases hc with e1 | e1 | e1
    · subst e1; rw [up_ne (by decide), up_ne (by decide), up_ne (by decide), up_nk (by omega)]
    · subst e1; rw [up_ne (by decide), up_ne (by decide), up_nk (by omega), up_ne (by decide)]
    · subst e1; rw [up_ne (by decide), up_nk (by omega), up_ne (by decide), up_ne (by decide)]) (by rw [up_ne (by decide), up_ne (by decide), up_ne (by decide), up_k]) (by rw [up_ne (by decide), up_ne (by decide), up_k]) (by rw [up_ne (by decide), up_k])
  have eg : gc (flat (P ++ [(Y, e, X ++ [(r, ty)])])) z0 (rH ρ) = rH ρ := by
    refine gc_all (fun b hb' => ?_)
    rw [h.2.1] at hb'
    have := (gc_in.mp hb').2
    rw [flat_T, cnt_app]
    have e0 : z0 b.1 = 0 := rfl
    omega
  rw [eg] at q
  exact q
/-- an int in the place of an int -/
theorem RX.in68 {v0 v : Mem} {n z dp : Nat} {en : Int} {J : Jb} {P : List Fr} {Y X : List TyR} {e N : Nat} {ρ : Rho} {r : Rw} {a : Int} (h : RX v0 n z dp en J (P ++ [(Y, e, X ++ [(r, 0)])]) ρ v) (hN : (tmps (P ++ [(Y, e, X)])).length = N) (h1 : -2147483648 ≤ a) (h2 : a < 2147483648) : RX v0 n z dp en J (P ++ [(Y, e, X ++ [((-1, a, 0), 0)])]) (wH ρ (gc (flat (P ++ [(Y, e, X ++ [((-1, a, 0), 0)])])) z0 (rH ρ))) (up v 68 N a) := by
  subst hN
  have q := h.get (k := 0) (by show 0 < 1; decide)
  rw [Nat.add_zero] at q
  have q := rrw.i0 q
  obtain ⟨e1, e2⟩ := h.n52
  have e2 : (tmps (P ++ [(Y, e, X)])).length + 1 ≤ 1500 := e2
  refine h.put (rrw_int (y := v 67 (tmps (P ++ [(Y, e, X)])).length) h1 h2) (fun p hp => absurd hp (by show ¬ (-1 : Int) = _; omega)) (by omega) ?_ (fun k hk => by rw [up_ne (by decide)]) (fun c c1 c2 c3 c4 => up_ne c4) (fun c i hc hi => ?_) ?_ ?_ up_k
  · rw [up_ne (by decide)]; exact e1
  · by_cases e68 : c = 68
    · subst e68; rw [up_nk (by omega)]
    · rw [up_ne e68]
  · rw [up_ne (by decide)]; exact q.2.1
  · rw [up_ne (by decide)]
/-- byte i of a text -/
theorem RX.byt {v0 v : Mem} {n z dp : Nat} {en : Int} {J : Jb} {FS : List Fr} {ρ : Rho} {tx : Nat → Int} (h : RX v0 n z dp en J FS ρ v) (htx : ∀ a, a < n → v0 40 a = tx a ∧ -128 ≤ tx a ∧ tx a < 128) (hn : n ≤ 3000) {r : Rw} {x y w : Int} (hr : rrw J n r 1 x y w) (hb : ∀ p : Nat, r.1 = (p : Int) → 0 < cnt p (flat FS)) {i : Nat} (hi : (i : Int) < w) :
    (-128 ≤ bt tx (rB ρ) (r.2.1.toNat + i) ∧ bt tx (rB ρ) (r.2.1.toNat + i) < 128) ∧ ((x = -2 ∧ ∃ a : Nat, y = (a : Int) ∧ a + i < 3000 ∧ v 40 (a + i) = bt tx (rB ρ) (r.2.1.toNat + i)) ∨ ∃ k a b : Nat, x = (k : Int) ∧ k < 2001 ∧ v 73 k = (b : Int) ∧ y = (a : Int) ∧ b + a + i < 4000 ∧ v 77 (b + a + i) = bt tx (rB ρ) (r.2.1.toNat + i)) := by
  obtain ⟨a1, a2, a3, a4, a5, a6, a7⟩ := h
  rcases hr with h | ⟨-, -, -, h3⟩ | ⟨-, s, c, e, h1, h2, h3, h4, h5⟩ | ⟨-, j, hj, o, c, e, h1, h2, h3, h4, h5⟩
  · exact absurd h.1 (by decide)
  · omega
  · rw [e]
    have es : ((-1, (s : Int), (c : Int)) : Rw).2.1.toNat = s := Int.toNat_natCast s
    rw [es]
    have eb : bt tx (rB ρ) (s + i) = tx (s + i) := by unfold bt; rw [if_pos (by omega)]
    have ht := htx (s + i) (by omega)
    rw [eb]
    refine ⟨ht.2, Or.inl ⟨h3, s, h4, by omega, ?_⟩⟩
    rw [a7.1 40 (by omega) (by decide)]
    exact ht.1
  · have hsz := a1.sz hj
    have hz := a1.1.2.2.1
    have hin : j.2 ∈ rH ρ := by
      rw [a2]
      refine gc_in.mpr ⟨mem_blk hj, ?_⟩
      have := hb j.2.1 (by rw [e])
      omega
    have q := a6 j.2 hin (o + i) (by omega)
    rw [e]
    have es : (((j.2.1 : Nat) : Int), ((3000 + j.2.1 + o : Nat) : Int), (c : Int)).2.1.toNat = 3000 + j.2.1 + o := Int.toNat_natCast _
    rw [es]
    have eb : bt tx (rB ρ) (3000 + j.2.1 + o + i) = rB ρ (j.2.1 + (o + i)) := by
      unfold bt
      rw [if_neg (by omega), show 3000 + j.2.1 + o + i - 3000 = j.2.1 + (o + i) from by omega]
    rw [eb]
    obtain ⟨hg, g1, g2, g3⟩ := a1.2.1
    have := g3 j hj
    refine ⟨q.2, Or.inr ⟨j.1, o, j.2.1, h3, by omega, (a1.2.2.1 j hj).1, h4, by omega, ?_⟩⟩
    rw [show j.2.1 + o + i = j.2.1 + (o + i) from by omega]
    exact q.1
/-- - and ! -/
theorem nm_front {t : Int} {d : Nat} {v0 v : Mem} {n z dp : Nat} {J : Jb} {P : List Fr} {Y X : List TyR} {e : Nat} {ρ : Rho} {r : Rw} {Q : Int → Mem → Prop} {a1 k : Int} (hk : k = 45 ∨ k = 33) (h : RX v0 n z dp 0 J (P ++ [(Y, e, X ++ [(r, 0)])]) ρ v) (hq : KRe v0 n z dp P Y e X 0 Q (frE k (flat (P ++ [(Y, e, X)])) r ρ)) : RR t (d + 3) 239 [(2, 38), (0, a1), (0, (if k = 45 then 5 else 6))] v Q := by
  obtain ⟨e1, e2⟩ := h.n52
  have e1 : v 38 52 = (((tmps (P ++ [(Y, e, X)])).length + 1 : Nat) : Int) := e1
  have e2 : (tmps (P ++ [(Y, e, X)])).length + 1 ≤ 1500 := e2
  generalize hN : (tmps (P ++ [(Y, e, X)])).length = N at *
  have g := h.get (k := 0) (by show 0 < 1; decide)
  rw [hN, Nat.add_zero] at g
  obtain ⟨g1, g2, g3, g4⟩ := rrw.i0 g
  have g1 : r = (-1, v 68 N, 0) := g1
  have hr : r.2.1 = v 68 N := by rw [g1]
  have hq : KRe v0 n z dp P Y e X 0 Q (rtE (flat (P ++ [(Y, e, X)])) (-1, (if k = 45 then w32 (-r.2.1) else 1 - tr r.2.1), 0) ρ) := hq
  rw [hr] at hq
  have nd : 0 ≤ (N : Int) ∧ (N : Int) < 1500 := ⟨by omega, by omega⟩
  refine s_239 ?_
  rw [e1, wtp (A := N + 1) (B := N) (j := 1) (by omega) (by omega) (by omega), Int.toNat_natCast]
  rcases hk with c | c
  · rw [if_pos c] at hq ⊢
    refine ⟨fun _ => ⟨nd, fun _ => ⟨nd, ?_⟩, fun q => absurd rfl q⟩, fun q => absurd rfl q⟩
    have b := w32_r (-(v 68 N))
    exact hq.ret (h.in68 hN b.1 b.2)
  · rw [if_neg (by omega)] at hq ⊢
    refine ⟨fun q => absurd q (by decide), fun _ => ⟨fun _ => ⟨nd, fun q => absurd q (by decide), fun _ => ⟨fun z0' => ⟨nd, ?_⟩, fun z0' => ⟨nd, ?_⟩⟩⟩, fun q => absurd rfl q⟩⟩
    · have et : 1 - tr (v 68 N) = 1 := by unfold tr; rw [if_pos z0']; rfl
      rw [et] at hq
      exact hq.ret (h.in68 hN (by decide) (by decide))
    · have et : 1 - tr (v 68 N) = 0 := by unfold tr; rw [if_neg z0']; rfl
      rw [et] at hq
      exact hq.ret (h.in68 hN (by decide) (by decide))
