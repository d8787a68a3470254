/-! The reference does what S say: what stands, step, print. -/
/-- the current frame changes: locals Y' in scope, no parts of an E -/
theorem RX.nfr {v0 v v' : Mem} {n z dp : Nat} {J : Jb} {P : List Fr} {Y X Y' : List TyR} {ex ex' : Nat} {ρ : Rho} (h : RX v0 n z dp 0 J (P ++ [(Y, ex, X)]) ρ v) (h52 : v' 38 52 = (((tmps P).length : Nat) : Int)) (hk : ∀ k, k ≠ 52 → v' 38 k = v 38 k) (hc : ∀ c, c ≠ 38 → ¬ (69 ≤ c ∧ c ≤ 72) → c ≠ 80 → v' c = v c) (hlow : ∀ c k, ((69 ≤ c ∧ c ≤ 71) ∨ c = 80) → k < 30 * P.length → v' c k = v c k) (h72 : ∀ f, f < P.length → v' 72 f = v 72 f) (hY : RLf v' n J P.length Y') (hb : ∀ p : Nat, 0 < cnt p (rws Y') → 0 < cnt p (flat (P ++ [(Y, ex, X)]))) :
    RX v0 n z dp 0 J (P ++ [(Y', ex', [])]) (wH ρ (gc (flat (P ++ [(Y', ex', [])])) z0 (rH ρ))) v' := by
  obtain ⟨a1, a2, a3, a4, a5, a6, a7⟩ := h
  have lenS : (P ++ [(Y', ex', [])]).length = (P ++ [(Y, ex, X)]).length := by rw [List.length_append, List.length_append]; rfl
  have et : tmps (P ++ [(Y', ex', [])]) = tmps P := by rw [tmps_1, List.append_nil]
  refine ⟨a1.same (hk _ (by decide)) (hk _ (by decide)) (hk _ (by decide)) (fun c hc' => hc c (by omega) (by omega) (by omega)), ?_, ⟨?_, ?_, fun i hi => ?_⟩, ?_, ?_, fun b hb' j hj => ?_, a7.trans (fun c c1 c2 => hc c c2 (by omega) (by omega)) (fun k hk' => hk k (by omega))⟩
  · show gc (flat (P ++ [(Y', ex', [])])) z0 (rH ρ) = _
    rw [a2]
    refine gc_sub (fun b hb' hp => ?_)
    rw [flat_1, cnt_app, cnt_app, cnt_app, cnt_zr] at hp
    have hp : 0 < cnt b.1 (flat P) + (cnt b.1 (rws Y') + (0 + 0)) := hp
    by_cases c : 0 < cnt b.1 (rws Y')
    · exact hb b.1 c
    · rw [flat_1, cnt_app]; omega
  · rw [et]; exact h52
  · rw [et]
    have := a3.2.1
    rw [tmps_1, List.length_append] at this
    omega
  · rw [et] at hi ⊢
    rw [hc 66 (by decide) (by omega) (by decide), hc 67 (by decide) (by omega) (by decide), hc 68 (by decide) (by omega) (by decide)]
    have q := a3.2.2 i (by rw [tmps_1, List.length_append]; omega)
    rw [tmps_1, gd_app1 hi] at q
    exact q
  · have a4 := (RLo_app _ _ _).mp a4
    refine (RLo_app _ _ _).mpr ⟨?_, by rw [Nat.zero_add]; exact hY, trivial⟩
    have key : ∀ (R : List Fr) (f : Nat), f + R.length ≤ P.length → RLo v n J f R → RLo v' n J f R := by
      intro R
      induction R with
      | nil => intro f _ _; trivial
      | cons x R ih =>
        intro f hf hR
        have hf : f + (R.length + 1) ≤ P.length := hf
        have l30 := hR.1.2.1
        exact ⟨hR.1.same (h72 f (by omega)) (fun c k hc' k1 k2 => hlow c k (by omega) (by omega)), ih (f + 1) (by omega) hR.2⟩
    exact key P 0 (by omega) a4.1
  · rw [lenS]
    exact a5.same (fun k hk' => hk k (by omega)) (hc 79 (by decide) (by omega) (by decide))
  · rw [hc 77 (by decide) (by omega) (by decide)]
    exact a6 b (gc_in.mp hb').1 j hj
theorem step_rr {t : Int} {d : Nat} {v0 v : Mem} {n z dp : Nat} {J : Jb} {FS : List Fr} {ρ : Rho} {Q : Int → Mem → Prop} (h : RX v0 n z dp 0 J FS ρ v) (h1 : rN ρ = 20000 → ∀ v', RE v0 n z dp (4, ρ) v' → Q 0 v') (h2 : ¬ rN ρ = 20000 → ∀ v', RX v0 n z dp 0 J FS (wN ρ (rN ρ + 1)) v' → Q 1 v') : RR t (d + 1) 249 [(2, 38)] v Q := by
  have e : v 38 68 = ((rN ρ : Nat) : Int) := h.2.2.2.2.1.2.2.1.1
  have hN := h.nle
  refine p_249 ?_
  unfold f_249 m_249
  rw [e]
  by_cases c : rN ρ = 20000
  · rw [if_pos (by omega), if_pos (by omega)]
    exact h1 c _ h.err
  · rw [if_neg (by omega), if_neg (by omega), wm1 (by omega)]
    exact h2 c _ (h.stp (by omega))
/-- bytes told -/
theorem RX.told {v0 v v' : Mem} {n z dp m : Nat} {J : Jb} {FS : List Fr} {ρ : Rho} {g : Nat → Int} (h : RX v0 n z dp 0 J FS ρ v) (hm : (rT ρ).length + m ≤ 2000) (hw : ∀ c, c ≠ 79 → c ≠ 38 → v' c = v c) (hk : ∀ k, k ≠ 72 → v' 38 k = v 38 k) (h72 : v' 38 72 = (((rT ρ).length + m : Nat) : Int)) (hl : ∀ i, i < (rT ρ).length → v' 79 i = v 79 i) (hg : ∀ j, j < m → v' 79 ((rT ρ).length + j) = g j) : RX v0 n z dp 0 J FS (wT ρ (tlA (rT ρ) m g)) v' := by
  obtain ⟨a1, a2, a3, a4, a5, a6, a7⟩ := h
  obtain ⟨q1, q2, ⟨q3, q6, q7, q8⟩, ⟨q4, q9, q10⟩, q5⟩ := a5
  refine ⟨a1.same (hk _ (by decide)) (hk _ (by decide)) (hk _ (by decide)) (fun c hc => hw c (by omega) (by omega)), a2, a3.same (hk _ (by decide)) (fun c hc => hw c (by omega) (by omega)), RLo.same (fun c hc => hw c (by omega) (by omega)) _ _ a4, ⟨?_, ?_, ⟨?_, ?_, ?_, ?_⟩, ⟨q4, q9, ?_⟩, ?_⟩, fun b hb j hj => ?_, a7.trans (fun c c1 c2 => hw c (by omega) c2) (fun k hk' => hk k (by omega))⟩
  · rw [hk 57 (by decide), hk 58 (by decide)]; exact q1
  · rw [hk 66 (by decide), hk 67 (by decide), hk 78 (by decide)]; exact q2
  · rw [hk 68 (by decide)]; exact q3
  · rw [hk 69 (by decide)]; exact q6
  · rw [hk 70 (by decide)]; exact q7
  · rw [h72]
    show _ = (((tlA (rT ρ) m g).length : Nat) : Int)
    rw [tlA_len]
  · show (tlA (rT ρ) m g).length ≤ 2000
    rw [tlA_len]; exact hm
  · intro i hi
    have hi : i < (tlA (rT ρ) m g).length := hi
    rw [tlA_len] at hi
    show v' 79 i = (tlA (rT ρ) m g).getD i 0
    by_cases c : i < (rT ρ).length
    · rw [tlA_1 c, hl i c]; exact q5 i c
    · obtain ⟨j, rfl⟩ : ∃ j, i = (rT ρ).length + j := ⟨i - (rT ρ).length, by omega⟩
      rw [tlA_2 (by omega)]
      exact hg j (by omega)
  · rw [hw 77 (by decide) (by decide)]; exact a6 b hb j hj
theorem pr_lp {t : Int} {d : Nat} {v0 v : Mem} {n z dp : Nat} {J : Jb} {P : List Fr} {Y : List TyR} {ex N : Nat} {ρ : Rho} {x : Rw} {ty : Int} {Q : Int → Mem → Prop} {tx : Nat → Int} {m : Nat} {g : Nat → Int} (h : RX v0 n z dp 0 J (P ++ [(Y, ex, [(x, ty)])]) ρ v) (htx : ∀ a, a < n → v0 40 a = tx a ∧ -128 ≤ tx a ∧ tx a < 128) (hn : n ≤ 3000) (hN : (tmps P).length = N) (hm : (rT ρ).length + m ≤ 2000) (hmg : (ty = 0 ∧ m ≤ 11 ∧ ∀ j, j < m → v 81 j = g j ∧ -128 ≤ g j ∧ g j < 128) ∨ (ty = 1 ∧ v 68 N = (m : Int) ∧ g = fun j => bt tx (rB ρ) (x.2.1.toNat + j))) (hq : ∀ v', RX v0 n z dp 0 J (P ++ [(Y, ex, [(x, ty)])]) (wT ρ (tlA (rT ρ) m g)) v' → Q 1 v') : ∀ (s i : Nat) (w : Mem), i + s = m → (∀ c, c ≠ 79 → w c = v c) → (∀ j, j < (rT ρ).length → w 79 j = v 79 j) → (∀ j, j < i → w 79 ((rT ρ).length + j) = g j) → LL t (d + 1) 255 62 [(2, 38), (0, ty), (0, (m : Int)), (0, (i : Int))] [] w Q := by
  have hX : tmps (P ++ [(Y, ex, [])]) = tmps P := by rw [tmps_1, List.append_nil]
  have h' : RX v0 n z dp 0 J (P ++ [(Y, ex, [] ++ [(x, ty)])]) ρ v := h
  have e1 := h'.n52.1
  have e2 := h'.n52.2
  rw [hX, hN] at e1 e2
  have e1 : v 38 52 = ((N + 1 : Nat) : Int) := e1
  have e2 : N + 1 ≤ 1500 := e2
  have gg := h'.get (k := 0) (by show 0 < 1; decide)
  rw [hX, hN, Nat.add_zero] at gg
  have gg : rrw J n x ty (v 66 N) (v 67 N) (v 68 N) := gg
  have e72 : v 38 72 = (((rT ρ).length : Nat) : Int) := h.2.2.2.2.1.2.2.1.2.2.2
  have lx : ∀ p : Nat, x.1 = (p : Int) → 0 < cnt p (flat (P ++ [(Y, ex, [(x, ty)])])) := fun p hp => live_T (x := (x, ty)) (mem_T (X := []) (T := [(x, ty)]) (by simp)) hp
  intro s
  induction s with
  | zero =>
    intro i w hi hw h1 h2
    refine w_255_62 ⟨fun c => absurd c (by omega), fun _ => ⟨Or.inr rfl, ?_⟩⟩
    rw [hw 38 (by decide), e72, wNat (k := (rT ρ).length + m) (a := (((rT ρ).length : Nat) : Int) + (m : Int)) (by omega) (by omega)]
    refine hq _ (h.told hm (fun c c1 c2 => by rw [up_ne c2]; exact hw c c1) (fun k hk => by rw [up_nk hk, hw 38 (by decide)]) up_k (fun j hj => by rw [up_ne (by decide)]; exact h1 j hj) (fun j hj => by rw [up_ne (by decide)]; exact h2 j (by omega)))
  | succ s ih =>
    intro i w hi hw h1 h2
    have key : ∀ b : Int, g i = b → LL t (d + 1) 255 62 [(2, 38), (0, ty), (0, (m : Int)), (0, ((i + 1 : Nat) : Int))] [] (up w 79 ((rT ρ).length + i) b) Q := by
      intro b hb
      refine ih (i + 1) _ (by omega) (fun c hc => by rw [up_ne hc]; exact hw c hc) (fun j hj => by rw [up_nk (by omega)]; exact h1 j hj) (fun j hj => ?_)
      by_cases ej : j = i
      · rw [ej, up_k, hb]
      · rw [up_nk (by omega)]; exact h2 j (by omega)
    refine w_255_62 ⟨fun _ => ?_, fun c => absurd (by omega) c⟩
    rw [hw 38 (by decide), e72, wNat (k := (rT ρ).length + i) (a := (((rT ρ).length : Nat) : Int) + (i : Int)) (by omega) (by omega), Int.toNat_natCast, wm1 (by omega), e1, wtp (A := N + 1) (B := N) (j := 1) (by omega) (by omega) (by omega)]
    rcases hmg with ⟨c, m11, hg⟩ | ⟨c, hm68, hg⟩
    · have q := hg i (by omega)
      rw [Int.toNat_natCast, hw 81 (by decide), q.1, w8_id q.2.1 q.2.2, w8_id q.2.1 q.2.2]
      exact ⟨fun _ => ⟨⟨by omega, by omega⟩, ⟨by omega, by omega⟩, key _ rfl⟩, fun q => absurd c q⟩
    · subst c
      refine ⟨fun c => absurd c (by decide), fun _ => ?_⟩
      have b := h.byt htx hn gg lx (i := i) (by omega)
      refine byteOf_w (v := w) (a := 0) (m := 0) (b := bt tx (rB ρ) (x.2.1.toNat + i)) (by omega) ?_ (fun _ _ => rfl) (fun _ _ => rfl) ⟨⟨by omega, by omega⟩, ?_⟩
      · rw [hw 66 (by decide), hw 67 (by decide)]
        rcases b.2 with ⟨b1, b2, b3, b4, b5⟩ | ⟨k, s', p, b1, b2, b3, b4, b5, b6⟩
        · exact Or.inl ⟨b1, b2, b3, b4, by rw [hw 40 (by decide)]; exact b5⟩
        · exact Or.inr ⟨k, s', p, b1, b2, by rw [hw 73 (by decide)]; exact b3, b4, b5, by omega, by rw [hw 77 (by decide)]; exact b6⟩
      · rw [w8_i b.1]
        exact key _ (by rw [hg])
/-- print -/
theorem pr_rr {t : Int} {d : Nat} {v0 v : Mem} {n z dp : Nat} {J : Jb} {P : List Fr} {Y : List TyR} {ex : Nat} {ρ : Rho} {x : Rw} {ty : Int} {Q : Int → Mem → Prop} {tx : Nat → Int} (h : RX v0 n z dp 0 J (P ++ [(Y, ex, [(x, ty)])]) ρ v) (htx : ∀ a, a < n → v0 40 a = tx a ∧ -128 ≤ tx a ∧ tx a < 128) (hn : n ≤ 3000) {m : Nat} {g : Nat → Int} (hmg : (ty = 0 ∧ m = dcl x.2.1 ∧ g = dch x.2.1) ∨ (ty = 1 ∧ m = x.2.2.toNat ∧ g = fun j => bt tx (rB ρ) (x.2.1.toNat + j))) (h1 : 2000 < (rT ρ).length + m → ∀ v', RE v0 n z dp (5, ρ) v' → Q 0 v') (h2 : (rT ρ).length + m ≤ 2000 → ∀ v', RX v0 n z dp 0 J (P ++ [(Y, ex, [(x, ty)])]) (wT ρ (tlA (rT ρ) m g)) v' → Q 1 v') : RR t (d + 2) 255 [(2, 38), (0, ty)] v Q := by
  have hX : tmps (P ++ [(Y, ex, [])]) = tmps P := by rw [tmps_1, List.append_nil]
  have h' : RX v0 n z dp 0 J (P ++ [(Y, ex, [] ++ [(x, ty)])]) ρ v := h
  have e1 := h'.n52.1
  have e2 := h'.n52.2
  rw [hX] at e1 e2
  have gg := h'.get (k := 0) (by show 0 < 1; decide)
  rw [hX, Nat.add_zero] at gg
  generalize hN : (tmps P).length = N at *
  have e1 : v 38 52 = ((N + 1 : Nat) : Int) := e1
  have e2 : N + 1 ≤ 1500 := e2
  have gg : rrw J n x ty (v 66 N) (v 67 N) (v 68 N) := gg
  have e72 : v 38 72 = (((rT ρ).length : Nat) : Int) := h.2.2.2.2.1.2.2.1.2.2.2
  have hT := h.2.2.2.2.1.2.2.2.1.2.2
  have nd : 0 ≤ (N : Int) ∧ (N : Int) < 1500 := ⟨by omega, by omega⟩
  refine w_255 ?_
  rw [e1, wtp (A := N + 1) (B := N) (j := 1) (by omega) (by omega) (by omega), Int.toNat_natCast]
  rcases hmg with ⟨c, hm, hg⟩ | ⟨c, hm, hg⟩
  · subst c
    obtain ⟨g1, -, g3, g4⟩ := rrw.i0 gg
    have hx : x.2.1 = v 68 N := by rw [g1]
    rw [hx] at hm hg
    have hD := dcl_b g3 g4
    refine ⟨fun _ => ⟨nd, wr_rr g3 g4 (fun v1 f1 h77 h81 => ?_)⟩, fun c => absurd rfl c⟩
    have k1 := h.wrf f1
    have e72' : v1 38 72 = (((rT ρ).length : Nat) : Int) := k1.2.2.2.2.1.2.2.1.2.2.2
    rw [h77, e72', wNat (k := (rT ρ).length + dcl (v 68 N)) (by omega) (by omega)]
    refine ⟨fun _ => ⟨fun c => s_231 ⟨Or.inl rfl, h1 (by omega) _ k1.err⟩, fun c => ?_⟩, fun c => absurd rfl c⟩
    rw [← hm]
    exact pr_lp k1 htx hn hN (by omega) (Or.inl ⟨rfl, by omega, fun j hj => by rw [hg, h81 j (by omega)]; exact ⟨rfl, dch_r⟩⟩) (h2 (by omega)) m 0 v1 (by omega) (fun _ _ => rfl) (fun _ _ => rfl) (fun j hj => absurd hj (Nat.not_lt_zero _))
  · subst c
    obtain ⟨c, hc, hc2, hc4⟩ := h.len hn gg
    rw [hc2, Int.toNat_natCast] at hm
    subst hm
    refine ⟨fun c => absurd c (by decide), fun _ => ⟨fun c => absurd c (by decide), fun _ => ⟨nd, ?_⟩⟩⟩
    rw [hc, e72, wNat (k := (rT ρ).length + m) (a := (((rT ρ).length : Nat) : Int) + (m : Int)) (by omega) (by omega)]
    exact ⟨fun c => s_231 ⟨Or.inl rfl, h1 (by omega) _ h.err⟩, fun c => pr_lp h htx hn hN (by omega) (Or.inr ⟨rfl, hc, hg⟩) (h2 (by omega)) m 0 v (by omega) (fun _ _ => rfl) (fun _ _ => rfl) (fun j hj => absurd hj (Nat.not_lt_zero _))⟩
