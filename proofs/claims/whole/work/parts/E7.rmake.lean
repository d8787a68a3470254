/-! The reference: acts that make a block. -/
theorem RX.liv {v0 v : Mem} {n z dp : Nat} {en : Int} {J : Jb} {FS : List Fr} {ρ : Rho} (h : RX v0 n z dp en J FS ρ v) {r : Rw} {ty x y w : Int} (hr : rrw J n r ty x y w) (hb : ∀ p : Nat, r.1 = (p : Int) → 0 < cnt p (flat FS)) : ∀ p : Nat, r.1 = (p : Int) → ∃ b ∈ rH ρ, b.1 = p := by
  intro p hp
  rcases hr.ref with ⟨-, e⟩ | ⟨j, hj, -, e⟩
  · rw [hp] at e; omega
  · have e3 : j.2.1 = p := by rw [hp] at e; omega
    refine ⟨j.2, ?_, e3⟩
    rw [h.2.1]
    have := hb p hp
    exact gc_in.mpr ⟨mem_blk hj, by rw [e3]; show 0 < cnt p (flat FS) + 0; omega⟩
theorem hok_gc {z : Nat} {S : List Rw} : ∀ (H : Hp) (lo : Nat), hok z lo H → hok z lo (gc S z0 H) := by
  intro H
  induction H with
  | nil => intro lo hh; exact hh
  | cons b r ih =>
    intro lo hh
    have i1 := ih _ hh.2.2
    unfold gc at i1 ⊢
    by_cases c : 0 < cnt b.1 S + z0 b.1
    · rw [List.filter_cons_of_pos (p := fun b : Nat × Nat × Nat => decide (0 < cnt b.1 S + z0 b.1)) (decide_eq_true c)]
      exact ⟨hh.1, hh.2.1, i1⟩
    · rw [List.filter_cons_of_neg (p := fun b : Nat × Nat × Nat => decide (0 < cnt b.1 S + z0 b.1)) (by show ¬ decide (0 < cnt b.1 S + z0 b.1) = true; rw [decide_eq_false c]; decide)]
      exact hok_dn _ _ _ i1 (by have := hh.1; omega)
theorem RX_hok {v0 v : Mem} {n z dp : Nat} {en : Int} {J : Jb} {FS : List Fr} {ρ : Rho} (h : RX v0 n z dp en J FS ρ v) : hok z 0 (rH ρ) := by
  rw [h.2.1]
  exact hok_gc _ _ h.1.1.1
/-- byte i of a text, a new block at a being there -/
def byD (v : Mem) (a m : Nat) (x y : Int) (i : Nat) (b : Int) : Prop := (x = -2 ∧ ∃ s : Nat, y = (s : Int) ∧ s + i < 3000 ∧ v 40 (s + i) = b) ∨ ∃ k s p : Nat, x = (k : Int) ∧ k < 2001 ∧ v 73 k = (p : Int) ∧ y = (s : Int) ∧ p + s + i < 4000 ∧ ¬ (a ≤ p + s + i ∧ p + s + i < a + m) ∧ v 77 (p + s + i) = b
theorem RMd.byt {v0 v : Mem} {n z dp m a : Nat} {J : Jb} {FS : List Fr} {ρ : Rho} {tx : Nat → Int} (h : RMd v0 n z dp J FS ρ m v) (ho : hok z 0 (rH ρ)) (hf : fit z (m + 1) 0 (rH ρ) = some a) (htx : ∀ a, a < n → v0 40 a = tx a ∧ -128 ≤ tx a ∧ tx a < 128) (hn : n ≤ 3000) {r : Rw} {x y w : Int} (hr : rrw J n r 1 x y w) (hl : ∀ p : Nat, r.1 = (p : Int) → ∃ b ∈ rH ρ, b.1 = p) {i : Nat} (hi : (i : Int) < w) : (-128 ≤ bt tx (rB ρ) (r.2.1.toNat + i) ∧ bt tx (rB ρ) (r.2.1.toNat + i) < 128) ∧ byD v a m x y i (bt tx (rB ρ) (r.2.1.toNat + i)) := by
  obtain ⟨a1, a2, a3, a4, a5, a6, a7⟩ := h
  rcases hr with h | ⟨-, -, -, h3⟩ | ⟨-, s, c, e, h1, h2, h3, h4, h5⟩ | ⟨-, j, hj, o, c, e, h1, h2, h3, h4, h5⟩
  · exact absurd h.1 (by decide)
  · omega
  · rw [e]
    have es : ((-1, (s : Int), (c : Int)) : Rw).2.1.toNat = s := Int.toNat_natCast s
    rw [es]
    have eb : bt tx (rB ρ) (s + i) = tx (s + i) := by unfold bt; rw [if_pos (by omega)]
    have ht := htx (s + i) (by omega)
    rw [eb]
    refine ⟨ht.2, Or.inl ⟨h3, s, h4, by omega, ?_⟩⟩
    rw [a7.1 40 (by omega) (by decide)]
    exact ht.1
  · have hsz := a1.sz hj
    have hz := a1.1.2.2.1
    obtain ⟨b0, hb0, eb0⟩ := hl j.2.1 (by rw [e])
    have ff0 := (fit_free (by omega) _ 0 ho hf).2 b0 hb0
    have s0 := hok_in _ _ ho hb0
    have hjin : j.2 ∈ hin (m + 1) (rK ρ) 0 (rH ρ) := by rw [← a2]; exact mem_blk hj
    have hin : j.2 ∈ rH ρ := by
      rcases mem_hin_inv _ 0 hf hjin with q | q
      · have : j.2.1 = a := by rw [q]
        omega
      · exact q
    have ff := (fit_free (by omega) _ 0 ho hf).2 j.2 hin
    have q := a6 j.2 hin (o + i) (by omega)
    rw [e]
    have es : (((j.2.1 : Nat) : Int), ((3000 + j.2.1 + o : Nat) : Int), (c : Int)).2.1.toNat = 3000 + j.2.1 + o := Int.toNat_natCast _
    rw [es]
    have eb : bt tx (rB ρ) (3000 + j.2.1 + o + i) = rB ρ (j.2.1 + (o + i)) := by
      unfold bt
      rw [if_neg (by omega), show 3000 + j.2.1 + o + i - 3000 = j.2.1 + (o + i) from by omega]
    rw [eb]
    obtain ⟨hg, g1, g2, g3⟩ := a1.2.1
    have := g3 j hj
    refine ⟨q.2, Or.inr ⟨j.1, o, j.2.1, h3, by omega, (a1.2.2.1 j hj).1, h4, by omega, by omega, ?_⟩⟩
    rw [show j.2.1 + o + i = j.2.1 + (o + i) from by omega]
    exact q.1
theorem byteOf_w {t : Int} {d : Nat} {v w : Mem} {Q : Int → Mem → Prop} {a m k i : Nat} {b : Int} (hk : k < 1500) (hb : byD v a m (v 66 k) (v 67 k) i b) (hw : ∀ c, c ≠ 77 → w c = v c) (hw2 : ∀ p, ¬ (a ≤ p ∧ p < a + m) → w 77 p = v 77 p) (hq : Q (iand b 255) w) : RR t d 236 [(2, 38), (0, (k : Int)), (0, (i : Int))] w Q := by
  have nd : 0 ≤ (k : Int) ∧ (k : Int) < 1500 := ⟨by omega, by omega⟩
  refine w_236 ⟨nd, ?_⟩
  rw [Int.toNat_natCast, hw 66 (by decide), hw 67 (by decide), hw 73 (by decide), hw 40 (by decide)]
  rcases hb with ⟨e1, s, e2, e3, e4⟩ | ⟨id, s, p, e1, e2, e3, e4, e5, e6, e7⟩
  · refine ⟨fun _ => ⟨nd, ?_⟩, fun c => absurd e1 c⟩
    rw [e2, wNat (k := s + i) (a := (s : Int) + (i : Int)) (by omega) (by omega), Int.toNat_natCast, e4]
    exact ⟨⟨by omega, by omega⟩, hq⟩
  · refine ⟨fun c => absurd c (by omega), fun _ => ⟨nd, ?_⟩⟩
    rw [e1, Int.toNat_natCast, e3, e4, wNat (k := p + s) (a := (p : Int) + (s : Int)) (by omega) (by omega), wNat (k := p + s + i) (a := ((p + s : Nat) : Int) + (i : Int)) (by omega) (by omega), Int.toNat_natCast, hw2 _ e6, e7]
    exact ⟨⟨by omega, by omega⟩, nd, ⟨by omega, by omega⟩, hq⟩
/-- the new block comes to the stack -/
theorem RMd.push {t : Int} {d : Nat} {v0 v w : Mem} {n z dp m a k : Nat} {J : Jb} {P : List Fr} {Y X T : List TyR} {e N : Nat} {ρ : Rho} {g : Nat → Int} {Q : Int → Mem → Prop} (h : RMd v0 n z dp J (P ++ [(Y, e, X ++ T)]) ρ m v) (hk : (k, a, m + 1, rK ρ) ∈ J) (hf : fit z (m + 1) 0 (rH ρ) = some a) (ho : hok z 0 (rH ρ)) (hm : 1 ≤ m) (hN : (tmps (P ++ [(Y, e, X)])).length = N) (hl : N < 1500) (hw : ∀ c, c ≠ 77 → w c = v c) (hg : ∀ j, j < m → w 77 (a + j) = g j ∧ -128 ≤ g j ∧ g j < 128) (hg2 : ∀ p, ¬ (a ≤ p ∧ p < a + m) → w 77 p = v 77 p) (hq : KRe v0 n z dp P Y e X 1 Q (mkE z (flat (P ++ [(Y, e, X)])) m g ρ)) : RR t d 234 [(2, 38), (0, (k : Int)), (0, 0), (0, (m : Int))] (up w 38 52 (N : Int)) (fun _ v' => ((1 : Int) = 0 ∨ (1 : Int) = 1) ∧ Q 1 v') := by
  unfold mkE at hq
  rw [hf] at hq
  refine w_234 ?_
  rw [up_k, Int.toNat_natCast, wm1 (by omega)]
  refine ⟨⟨by omega, by omega⟩, ⟨by omega, by omega⟩, ⟨by omega, by omega⟩, Or.inr rfl, hq _ J _ rfl ?_⟩
  subst hN
  refine h.fin hk hf ho hm hl (fun j hj => ?_) (fun p hp => ?_) up_k (fun x hx => ?_) (fun c c1 c2 c3 c4 c5 => ?_) (fun c i hc hi => ?_) ?_ ?_ ?_
  · rw [up_ne (by decide), up_ne (by decide), up_ne (by decide), up_ne (by decide), up_ne (by decide)]; exact hg j hj
  · rw [up_ne (by decide), up_ne (by decide), up_ne (by decide), up_ne (by decide), up_ne (by decide)]; exact hg2 p hp
  · rw [up_nk hx, up_ne (by decide), up_ne (by decide), up_ne (by decide), up_nk hx, hw 38 (by decide)]
  · rw [up_ne c1, up_ne c4, up_ne c3, up_ne c2, up_ne c1, hw c c5]
  · rcases hc with e1 | e1 | e1
    · subst e1; rw [up_ne (by decide), up_ne (by decide), up_ne (by decide), up_nk (by omega), up_ne (by decide), hw 66 (by decide)]
    · subst e1; rw [up_ne (by decide), up_ne (by decide), up_nk (by omega), up_ne (by decide), up_ne (by decide), hw 67 (by decide)]
    · subst e1; rw [up_ne (by decide), up_nk (by omega), up_ne (by decide), up_ne (by decide), up_ne (by decide), hw 68 (by decide)]
  · rw [up_ne (by decide), up_ne (by decide), up_ne (by decide), up_k]
  · rw [up_ne (by decide), up_ne (by decide), up_k]
  · rw [up_ne (by decide), up_k]
theorem w8_i {b : Int} (h : -128 ≤ b ∧ b < 128) : w8 (w8 (iand b 255)) = b := by
  rw [iand_255 (by omega) (by omega)]
  unfold w8
  omega
theorem rrw.zz {J : Jb} {n : Nat} {r : Rw} {x y w : Int} (h : rrw J n r 1 x y w) (hw : w = 0) (y' : Int) : rrw J n r 1 (-1) y' 0 := by
  rcases h with q | q | ⟨-, s, c, -, q1, -, -, -, q⟩ | ⟨-, j, -, o, c, -, q1, -, -, -, q⟩
  · exact absurd q.1 (by decide)
  · exact Or.inr (Or.inl ⟨rfl, q.2.1, rfl, rfl⟩)
  · omega
  · omega
theorem jn_lp {t : Int} {d : Nat} {v0 v : Mem} {n z dp a k : Nat} {J : Jb} {P : List Fr} {Y X : List TyR} {e N A M : Nat} {ρ : Rho} {x r : Rw} {Q : Int → Mem → Prop} {tx : Nat → Int} (h : RMd v0 n z dp J (P ++ [(Y, e, X ++ [(x, 1), (r, 1)])]) ρ (A + M) v) (hk : (k, a, A + M + 1, rK ρ) ∈ J) (hf : fit z (A + M + 1) 0 (rH ρ) = some a) (ho : hok z 0 (rH ρ)) (hN : (tmps (P ++ [(Y, e, X)])).length = N) (hN2 : N + 2 ≤ 1500) (htx : ∀ a, a < n → v0 40 a = tx a ∧ -128 ≤ tx a ∧ tx a < 128) (hn : n ≤ 3000) (hA : v 68 N = (A : Int)) (hM : v 68 (N + 1) = (M : Int)) (hA1 : 1 ≤ A) (hA2 : x.2.2 = (A : Int)) (hl : ∀ p : Nat, x.1 = (p : Int) → ∃ b ∈ rH ρ, b.1 = p) (hl2 : ∀ p : Nat, r.1 = (p : Int) → ∃ b ∈ rH ρ, b.1 = p) (hq : KRe v0 n z dp P Y e X 1 Q (mkE z (flat (P ++ [(Y, e, X)])) (A + M) (jnB (bt tx (rB ρ)) x r) ρ)) : ∀ (s i : Nat) (w : Mem), i + s = A + M → (∀ c, c ≠ 77 → w c = v c) → (∀ j, j < i → w 77 (a + j) = jnB (bt tx (rB ρ)) x r j ∧ -128 ≤ jnB (bt tx (rB ρ)) x r j ∧ jnB (bt tx (rB ρ)) x r j < 128) → (∀ p, ¬ (a ≤ p ∧ p < a + (A + M)) → w 77 p = v 77 p) → LL t (d + 1) 244 118 [(2, 38), (0, (A : Int)), (0, (M : Int)), (0, (k : Int)), (0, (i : Int)), (3, 0)] [] w Q := by
  have a3 := h.2.2.1
  have e1 : v 38 52 = ((N + 2 : Nat) : Int) := by
    rw [a3.1, tmps_T, List.length_append, hN]; rfl
  have g : rrw J n x 1 (v 66 N) (v 67 N) (v 68 N) := by
    have q := a3.2.2 (N + 0) (by rw [tmps_T, List.length_append, hN]; show N + 0 < N + 2; omega)
    rw [tmps_T, ← hN, gdA, hN] at q
    exact q
  have g' : rrw J n r 1 (v 66 (N + 1)) (v 67 (N + 1)) (v 68 (N + 1)) := by
    have q := a3.2.2 (N + 1) (by rw [tmps_T, List.length_append, hN]; show N + 1 < N + 2; omega)
    rw [tmps_T, ← hN, gdA, hN] at q
    exact q
  obtain ⟨b1, b2, b3⟩ := h.1.2.2.1 _ hk
  have b1 : v 73 k = (a : Int) := b1
  have hsz := h.1.sz hk
  have hsz : 2 ≤ A + M + 1 ∧ a + (A + M + 1) ≤ z := hsz
  have hz := h.1.1.2.2.1
  obtain ⟨hg, q1, q2, q3⟩ := h.1.2.1
  have q4 := q3 _ hk
  have q4 : k < hg := q4
  intro s
  induction s with
  | zero =>
    intro i w hi hw hg1 hg2
    refine w_244_118 ?_
    rw [wNat (k := A + M) (a := (A : Int) + (M : Int)) (by omega) (by omega), hw 38 (by decide), e1, wtp (A := N + 2) (B := N) (j := 2) (by omega) (by omega) (by omega)]
    exact ⟨fun c => absurd c (by omega), fun _ => h.push hk hf ho (by omega) hN (by omega) hw (fun j hj => hg1 j (by omega)) hg2 hq⟩
  | succ s ih =>
    intro i w hi hw hg1 hg2
    have key : ∀ b : Int, (-128 ≤ b ∧ b < 128) → jnB (bt tx (rB ρ)) x r i = b → (0 ≤ ((a + i : Nat) : Int) ∧ ((a + i : Nat) : Int) < 4000) ∧ LL t (d + 1) 244 118 [(2, 38), (0, (A : Int)), (0, (M : Int)), (0, (k : Int)), (0, ((i + 1 : Nat) : Int)), (3, 0)] [] (up w 77 (a + i) (w8 (w8 (iand b 255)))) Q := by
      intro b hb hj
      refine ⟨⟨by omega, by omega⟩, ih (i + 1) _ (by omega) (fun c hc => by rw [up_ne hc]; exact hw c hc) (fun j hj' => ?_) (fun p hp => ?_)⟩
      · by_cases ej : j = i
        · rw [ej, up_k, w8_i hb, hj]; exact ⟨rfl, hb⟩
        · rw [up_nk (by omega)]; exact hg1 j (by omega)
      · rw [up_nk (by omega)]; exact hg2 p hp
    refine w_244_118 ?_
    rw [wNat (k := A + M) (a := (A : Int) + (M : Int)) (by omega) (by omega), hw 38 (by decide), hw 73 (by decide), e1, wtp (A := N + 2) (B := N) (j := 2) (by omega) (by omega) (by omega), wtp (A := N + 2) (B := N + 1) (j := 1) (by omega) (by omega) (by omega), Int.toNat_natCast, b1, wNat (k := a + i) (a := (a : Int) + (i : Int)) (by omega) (by omega), Int.toNat_natCast, wm1 (k := i) (by omega)]
    refine ⟨fun _ => ⟨⟨by omega, by omega⟩, fun c => ?_, fun c => ?_⟩, fun c => absurd (by omega) c⟩
    · have q := h.byt ho hf htx hn g hl (i := i) (by omega)
      refine byteOf_w (by omega) q.2 hw hg2 (key _ q.1 ?_)
      unfold jnB
      rw [hA2, Int.toNat_natCast, if_pos (by omega)]
    · have q := h.byt ho hf htx hn g' hl2 (i := i - A) (by omega)
      rw [show w32 ((i : Int) - (A : Int)) = ((i - A : Nat) : Int) from wNat (by omega) (by omega)]
      refine byteOf_w (by omega) q.2 hw hg2 (key _ q.1 ?_)
      unfold jnB
      rw [hA2, Int.toNat_natCast, if_neg (by omega)]
/-- & -/
theorem tx_join {t : Int} {d : Nat} {v0 v : Mem} {n z dp : Nat} {J : Jb} {P : List Fr} {Y X : List TyR} {e : Nat} {ρ : Rho} {x r : Rw} {Q : Int → Mem → Prop} {tx : Nat → Int} {a1 : Int} (h : RX v0 n z dp 0 J (P ++ [(Y, e, X ++ [(x, 1), (r, 1)])]) ρ v) (htx : ∀ a, a < n → v0 40 a = tx a ∧ -128 ≤ tx a ∧ tx a < 128) (hn : n ≤ 3000) (hK : rK ρ < 2000000) (hq : KRe v0 n z dp P Y e X 1 Q (jnE tx z (flat (P ++ [(Y, e, X)])) x r ρ)) : RR t (d + 3) 243 [(2, 38), (0, a1), (0, 15)] v Q := by
  have e1 := h.n52.1
  have e2 := h.n52.2
  generalize hN : (tmps (P ++ [(Y, e, X)])).length = N at *
  have e1 : v 38 52 = ((N + 2 : Nat) : Int) := e1
  have e2 : N + 2 ≤ 1500 := e2
  have g := h.get (k := 0) (by show 0 < 2; decide)
  have g' := h.get (k := 1) (by show 1 < 2; decide)
  rw [hN, Nat.add_zero] at g
  rw [hN] at g'
  have g : rrw J n x 1 (v 66 N) (v 67 N) (v 68 N) := g
  have g' : rrw J n r 1 (v 66 (N + 1)) (v 67 (N + 1)) (v 68 (N + 1)) := g'
  have lx : ∀ p : Nat, x.1 = (p : Int) → 0 < cnt p (flat (P ++ [(Y, e, X ++ [(x, 1), (r, 1)])])) := fun p hp => live_T (x := (x, 1)) (mem_T (by simp)) hp
  have lr : ∀ p : Nat, r.1 = (p : Int) → 0 < cnt p (flat (P ++ [(Y, e, X ++ [(x, 1), (r, 1)])])) := fun p hp => live_T (x := (r, 1)) (mem_T (by simp)) hp
  obtain ⟨A, hA, hA2, hA4⟩ := h.len hn g
  obtain ⟨M, hM, hM2, hM4⟩ := h.len hn g'
  have nd : 0 ≤ (N : Int) ∧ (N : Int) < 1500 := ⟨by omega, by omega⟩
  have nd1 : 0 ≤ ((N + 1 : Nat) : Int) ∧ ((N + 1 : Nat) : Int) < 1500 := ⟨by omega, by omega⟩
  have hq := hq.b01
  unfold jnE at hq
  rw [hA2, hM2] at hq
  refine w_243 ⟨fun _ => w_244 ?_, fun c => absurd rfl c⟩
  rw [e1, wtp (A := N + 2) (B := N) (j := 2) (by omega) (by omega) (by omega), wtp (A := N + 2) (B := N + 1) (j := 1) (by omega) (by omega) (by omega), Int.toNat_natCast, Int.toNat_natCast, hA, hM]
  refine ⟨nd, nd1, fun c0 => ?_, fun c0 => ⟨fun c1 => ?_, fun c1 => ?_⟩⟩
  · rw [if_pos c0] at hq
    refine w_244_32 ?_
    rw [e1, wtp (A := N + 2) (B := N) (j := 2) (by omega) (by omega) (by omega), wtp (A := N + 2) (B := N + 1) (j := 1) (by omega) (by omega) (by omega), Int.toNat_natCast, wNat (k := A + M) (a := (A : Int) + (M : Int)) (by omega) (by omega)]
    refine ⟨fun _ => ⟨nd1, nd1, fun c => ?_, fun c => ?_⟩, fun c => absurd c0 c⟩
    · rw [c]
      exact psh_rr h hN (by omega) (g'.zz (by omega) _) lr (fun v' k => ⟨Or.inr rfl, hq.ret k⟩)
    · rw [show ((A + M : Nat) : Int) = v 68 (N + 1) from by omega]
      exact psh_rr h hN (by omega) g' lr (fun v' k => ⟨Or.inr rfl, hq.ret k⟩)
  · rw [if_neg c0, if_pos c1] at hq
    refine w_244_32 ?_
    rw [e1, wtp (A := N + 2) (B := N) (j := 2) (by omega) (by omega) (by omega), wNat (k := A + M) (a := (A : Int) + (M : Int)) (by omega) (by omega)]
    refine ⟨fun c => absurd c c0, fun _ => ⟨nd, nd, fun c => absurd c (by omega), fun c => ?_⟩⟩
    rw [Int.toNat_natCast, show ((A + M : Nat) : Int) = v 68 N from by omega]
    exact psh_rr h hN (by omega) g lx (fun v' k => ⟨Or.inr rfl, hq.ret k⟩)
  · rw [if_neg c0, if_neg c1, Int.toNat_natCast, Int.toNat_natCast] at hq
    rw [wNat (k := A + M) (a := (A : Int) + (M : Int)) (by omega) (by omega)]
    have ho := RX_hok h
    refine block_rr h (by omega) (by omega) hK (fun hf J' v' hx => ?_) (fun a hf J' k v' hm hk hb => ?_)
    · unfold mkE at hq
      rw [hf] at hq
      exact ⟨fun _ => ⟨Or.inl rfl, hq v' ⟨J', _, hx⟩⟩, fun c => absurd (by decide) c⟩
    · refine ⟨fun c => absurd c (by omega), fun _ => jn_lp hm hk hf ho hN e2 htx hn ?_ ?_ (by omega) hA2 (h.liv g lx) (h.liv g' lr) hq (A + M) 0 v' (by omega) (fun _ _ => rfl) (fun j hj => absurd hj (Nat.not_lt_zero _)) (fun _ _ => rfl)⟩
      · rw [hb.1 68 (by decide) (by omega)]; exact hA
      · rw [hb.1 68 (by decide) (by omega)]; exact hM
theorem dch_r {n : Int} {k : Nat} : -128 ≤ dch n k ∧ dch n k < 128 := by
  unfold dch
  split
  · exact ⟨by decide, by decide⟩
  · have : n.natAbs / 10 ^ (dcl n - 1 - k) % 10 < 10 := Nat.mod_lt _ (by decide)
    omega
theorem RX.wrf {v0 v v' : Mem} {n z dp : Nat} {en : Int} {J : Jb} {FS : List Fr} {ρ : Rho} (h : RX v0 n z dp en J FS ρ v) (f : WRf v v') : RX v0 n z dp en J FS ρ v' := by
  obtain ⟨a1, a2, a3, a4, a5, a6, a7⟩ := h
  exact ⟨a1.same (f.2 _ (by decide)) (f.2 _ (by decide)) (f.2 _ (by decide)) (fun c hc => f.1 c (by omega) (by omega)), a2, a3.same (f.2 _ (by decide)) (fun c hc => f.1 c (by omega) (by omega)), RLo.same (fun c hc => f.1 c (by omega) (by omega)) _ _ a4, a5.same (fun k hk => f.2 k (by omega)) (f.1 79 (by decide) (by decide)), fun b hb j hj => by rw [f.1 77 (by decide) (by decide)]; exact a6 b hb j hj, a7.trans (fun c c1 c2 => f.1 c (by omega) c2) (fun k hk => f.2 k (by omega))⟩
theorem dg_lp {t : Int} {d : Nat} {v0 v : Mem} {n z dp a k : Nat} {J : Jb} {P : List Fr} {Y X : List TyR} {e N : Nat} {ρ : Rho} {r : Rw} {Q : Int → Mem → Prop} {D : Int} (h : RMd v0 n z dp J (P ++ [(Y, e, X ++ [(r, 0)])]) ρ (dcl D) v) (hk : (k, a, dcl D + 1, rK ρ) ∈ J) (hf : fit z (dcl D + 1) 0 (rH ρ) = some a) (ho : hok z 0 (rH ρ)) (hN : (tmps (P ++ [(Y, e, X)])).length = N) (hN2 : N + 1 ≤ 1500) (hD : 1 ≤ dcl D ∧ dcl D ≤ 11) (h77 : v 38 77 = ((dcl D : Nat) : Int)) (h81 : ∀ j, j < dcl D → v 81 j = dch D j) (hq : KRe v0 n z dp P Y e X 1 Q (mkE z (flat (P ++ [(Y, e, X)])) (dcl D) (dch D) ρ)) : ∀ (s i : Nat) (w : Mem), i + s = dcl D → (∀ c, c ≠ 77 → w c = v c) → (∀ j, j < i → w 77 (a + j) = dch D j ∧ -128 ≤ dch D j ∧ dch D j < 128) → (∀ p, ¬ (a ≤ p ∧ p < a + dcl D) → w 77 p = v 77 p) → LL t (d + 1) 248 32 [(2, 38), (0, (k : Int)), (0, (i : Int))] [] w Q := by
  have a3 := h.2.2.1
  have e1 : v 38 52 = ((N + 1 : Nat) : Int) := by
    rw [a3.1, tmps_T, List.length_append, hN]; rfl
  obtain ⟨b1, b2, b3⟩ := h.1.2.2.1 _ hk
  have b1 : v 73 k = (a : Int) := b1
  have hsz := h.1.sz hk
  have hsz : 2 ≤ dcl D + 1 ∧ a + (dcl D + 1) ≤ z := hsz
  have hz := h.1.1.2.2.1
  obtain ⟨hg, q1, q2, q3⟩ := h.1.2.1
  have q4 := q3 _ hk
  have q4 : k < hg := q4
  intro s
  induction s with
  | zero =>
    intro i w hi hw hg1 hg2
    refine w_248_32 ?_
    rw [hw 38 (by decide), h77, e1, wtp (A := N + 1) (B := N) (j := 1) (by omega) (by omega) (by omega)]
    exact ⟨fun c => absurd c (by omega), fun _ => h.push hk hf ho (by omega) hN (by omega) hw (fun j hj => hg1 j (by omega)) hg2 hq⟩
  | succ s ih =>
    intro i w hi hw hg1 hg2
    have dr := dch_r (n := D) (k := i)
    refine w_248_32 ?_
    rw [hw 38 (by decide), hw 73 (by decide), hw 81 (by decide), h77, Int.toNat_natCast, Int.toNat_natCast, b1, wNat (k := a + i) (a := (a : Int) + (i : Int)) (by omega) (by omega), Int.toNat_natCast, wm1 (k := i) (by omega), h81 i (by omega), w8_id dr.1 dr.2]
    refine ⟨fun _ => ⟨⟨by omega, by omega⟩, ⟨by omega, by omega⟩, ⟨by omega, by omega⟩, ih (i + 1) _ (by omega) (fun c hc => by rw [up_ne hc]; exact hw c hc) (fun j hj' => ?_) (fun p hp => ?_)⟩, fun c => absurd (by omega) c⟩
    · by_cases ej : j = i
      · rw [ej, up_k]; exact ⟨rfl, dr⟩
      · rw [up_nk (by omega)]; exact hg1 j (by omega)
    · rw [up_nk (by omega)]; exact hg2 p hp
/-- digits -/
theorem tx_digits {t : Int} {d : Nat} {v0 v : Mem} {n z dp : Nat} {J : Jb} {P : List Fr} {Y X : List TyR} {e : Nat} {ρ : Rho} {r : Rw} {Q : Int → Mem → Prop} {a1 : Int} (h : RX v0 n z dp 0 J (P ++ [(Y, e, X ++ [(r, 0)])]) ρ v) (hK : rK ρ < 2000000) (hq : KRe v0 n z dp P Y e X 1 Q (mkE z (flat (P ++ [(Y, e, X)])) (dcl r.2.1) (dch r.2.1) ρ)) : RR t (d + 3) 243 [(2, 38), (0, a1), (0, 23)] v Q := by
  have e1 := h.n52.1
  have e2 := h.n52.2
  generalize hN : (tmps (P ++ [(Y, e, X)])).length = N at *
  have e1 : v 38 52 = ((N + 1 : Nat) : Int) := e1
  have e2 : N + 1 ≤ 1500 := e2
  have g := h.get (k := 0) (by show 0 < 1; decide)
  rw [hN, Nat.add_zero] at g
  have g : rrw J n r 0 (v 66 N) (v 67 N) (v 68 N) := g
  obtain ⟨g1, -, g3, g4⟩ := rrw.i0 g
  have hr : r.2.1 = v 68 N := by rw [g1]
  rw [hr] at hq
  have hq := hq.b01
  have hD := dcl_b g3 g4
  refine w_243 ⟨fun c => absurd c (by decide), fun _ => ⟨fun c => absurd c (by decide), fun _ => ⟨fun c => absurd c (by decide), fun _ => ⟨fun c => absurd c (by decide), fun _ => ⟨fun c => absurd c (by decide), fun _ => ⟨fun c => absurd c (by decide), fun _ => ⟨fun c => absurd c (by decide), fun _ => ⟨fun c => absurd c (by decide), fun _ => ⟨fun _ => w_248 ?_, fun c => absurd rfl c⟩⟩⟩⟩⟩⟩⟩⟩⟩
  rw [e1, wtp (A := N + 1) (B := N) (j := 1) (by omega) (by omega) (by omega), Int.toNat_natCast]
  refine ⟨⟨by omega, by omega⟩, wr_rr g3 g4 (fun v1 f1 h77 h81 => ?_)⟩
  rw [h77]
  have h1 := h.wrf f1
  have ho := RX_hok h
  refine block_rr h1 hD.1 (by omega) hK (fun hf J' v' hx => ?_) (fun a hf J' k v' hm hk hb => ?_)
  · unfold mkE at hq
    rw [hf] at hq
    exact ⟨fun _ => ⟨Or.inl rfl, hq v' ⟨J', _, hx⟩⟩, fun c => absurd (by decide) c⟩
  · exact ⟨fun c => absurd c (by omega), fun _ => dg_lp hm hk hf ho hN e2 hD (by rw [hb.2 77 (by omega)]; exact h77) (fun j hj => by rw [hb.1 81 (by decide) (by omega)]; exact h81 j hj) hq (dcl (v 68 N)) 0 v' (by omega) (fun _ _ => rfl) (fun j hj => absurd hj (Nat.not_lt_zero _)) (fun _ _ => rfl)⟩
/-- sign -/
theorem tx_sign {t : Int} {d : Nat} {v0 v : Mem} {n z dp : Nat} {J : Jb} {P : List Fr} {Y X : List TyR} {e : Nat} {ρ : Rho} {r : Rw} {Q : Int → Mem → Prop} {a1 : Int} (h : RX v0 n z dp 0 J (P ++ [(Y, e, X ++ [(r, 0)])]) ρ v) (hK : rK ρ < 2000000) (hq : KRe v0 n z dp P Y e X 1 Q (mkE z (flat (P ++ [(Y, e, X)])) 1 (fun _ => w8 (w8 r.2.1)) ρ)) : RR t (d + 3) 243 [(2, 38), (0, a1), (0, 24)] v Q := by
  have e1 := h.n52.1
  have e2 := h.n52.2
  generalize hN : (tmps (P ++ [(Y, e, X)])).length = N at *
  have e1 : v 38 52 = ((N + 1 : Nat) : Int) := e1
  have e2 : N + 1 ≤ 1500 := e2
  have g := h.get (k := 0) (by show 0 < 1; decide)
  rw [hN, Nat.add_zero] at g
  have g : rrw J n r 0 (v 66 N) (v 67 N) (v 68 N) := g
  obtain ⟨g1, -, g3, g4⟩ := rrw.i0 g
  have hr : r.2.1 = v 68 N := by rw [g1]
  rw [hr] at hq
  have ho := RX_hok h
  refine w_243 ⟨fun c => absurd c (by decide), fun _ => ⟨fun c => absurd c (by decide), fun _ => ⟨fun c => absurd c (by decide), fun _ => ⟨fun c => absurd c (by decide), fun _ => ⟨fun c => absurd c (by decide), fun _ => ⟨fun c => absurd c (by decide), fun _ => ⟨fun c => absurd c (by decide), fun _ => ⟨fun c => absurd c (by decide), fun _ => ⟨fun c => absurd c (by decide), fun _ => w_243_165 ?_⟩⟩⟩⟩⟩⟩⟩⟩⟩
  refine block_rr (m := 1) h (by decide) (by decide) hK (fun hf J' v' hx => ?_) (fun a hf J' k v' hm hk hb => ?_)
  · unfold mkE at hq
    rw [hf] at hq
    exact ⟨fun _ => ⟨Or.inl rfl, hq v' ⟨J', _, hx⟩⟩, fun c => absurd (by decide) c⟩
  · obtain ⟨b1, b2, b3⟩ := hm.1.2.2.1 _ hk
    have b1 : v' 73 k = (a : Int) := b1
    have hsz := hm.1.sz hk
    have hsz : 2 ≤ 1 + 1 ∧ a + (1 + 1) ≤ z := hsz
    have hz := hm.1.1.2.2.1
    obtain ⟨hg, q1, q2, q3⟩ := hm.1.2.1
    have q4 := q3 _ hk
    have q4 : k < hg := q4
    have e52 : v' 38 52 = ((N + 1 : Nat) : Int) := by rw [hb.2 52 (by omega)]; exact e1
    have e68 : v' 68 N = v 68 N := by rw [hb.1 68 (by decide) (by omega)]
    refine ⟨fun c => absurd c (by omega), fun _ => ?_⟩
    rw [Int.toNat_natCast, b1, Int.toNat_natCast, e52, wtp (A := N + 1) (B := N) (j := 1) (by omega) (by omega) (by omega), Int.toNat_natCast, e68]
    have wr := w8_r (w8 (v 68 N))
    exact ⟨⟨by omega, by omega⟩, ⟨by omega, by omega⟩, ⟨by omega, by omega⟩, hm.push hk hf ho (by decide) hN (by omega) (fun c hc => up_ne hc) (fun j hj => by
      have ej : j = 0 := by omega
      rw [ej, Nat.add_zero, up_k]
      exact ⟨rfl, wr⟩) (fun p hp => up_nk (by omega)) hq⟩
