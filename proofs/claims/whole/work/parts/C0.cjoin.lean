/-! The class's machine: join, print. -/
theorem HC.m36 {v : Mem} {z : Nat} {H : Hp} {k mo : Nat} {rc : Nat → Nat} {a x : Int} (h : HC v z H k mo rc) (ha : a = -1 ∨ ∃ b ∈ H, a = ((b.1 : Nat) : Int)) : m_36 a x v = v := by
  unfold m_36
  rcases ha with e | ⟨b, hb, e⟩
  · rw [e, if_pos (by decide)]
  · have h2 := hok_in _ _ h.1.2.1 hb
    rw [e, if_neg (by omega), Int.toNat_natCast, CHN_18 _ _ h.1.2.2 hb, if_neg (c := ((b.2.1 : Nat) : Int) = 0) (by omega)]
    split <;> rfl
def jnB (b : Nat → Int) (x r : Rw) (j : Nat) : Int := if j < x.2.2.toNat then b (x.2.1.toNat + j) else b (r.2.1.toNat + (j - x.2.2.toNat))
theorem rok.free {n z m a : Nat} {H : Hp} {r : Rw} (h : rok n H r) (hn : n ≤ 3000) (hz : ∀ b ∈ H, b.1 + b.2.1 ≤ 4000) (ho : hok z 0 H) (hf : fit z (m + 1) 0 H = some a) {c : Nat} (hc : r.2.2 = (c : Int)) (h1 : 1 ≤ c) : ∃ s : Nat, r.2.1 = (s : Int) ∧ s + c < 7000 ∧ (s + c ≤ 3000 + a ∨ 3000 + a + m < s) := by
  rcases h with ⟨q, e, -⟩ | ⟨s, c', e, g1, g2⟩ | ⟨b, hb, o, c', e, g1, g2⟩
  · rw [e] at hc
    have hc : (0 : Int) = (c : Int) := hc
    omega
  · rw [e] at hc
    have hc : (c' : Int) = (c : Int) := hc
    rw [e]
    exact ⟨s, rfl, by omega, by omega⟩
  · rw [e] at hc
    have hc : (c' : Int) = (c : Int) := hc
    have q1 := hz b hb
    have q2 := (fit_free (by omega) H 0 ho hf).2 b hb
    rw [e]
    exact ⟨_, rfl, by omega, by omega⟩
theorem rok.cnt {n : Nat} {H : Hp} {r : Rw} (h : rok n H r) (hn : n ≤ 3000) (hz : ∀ b ∈ H, b.1 + b.2.1 ≤ 4000) : r.2.2 < 4000 := by
  rcases h with ⟨a, e, h1, h2⟩ | ⟨s, c, e, h1, h2⟩ | ⟨b, hb, o, c, e, h1, h2⟩
  · rw [e]; show (0 : Int) < 4000; decide
  · rw [e]; show (c : Int) < 4000; omega
  · have := hz b hb
    rw [e]; show (c : Int) < 4000; omega
theorem at_join {t : Int} {d : Nat} {v0 v : Mem} {Q : Int → Mem → Prop} {n z dp pc : Nat} {FB : List (Nat × Nat)} {S : List Rw} {x r : Rw} {ρ : Rho} {f s : Int} (hn : n ≤ 3000) (hc : CM v0 n z dp pc FB (S ++ [x, r]) ρ v) (hk : rK ρ < 2000000000) (hl : S.length < 1440) (ha : actAt v0 pc 19 f s) (h0 : x.2.2 = 0 → ∀ v', CM v0 n z dp (pc + 1) FB (S ++ [r]) (wH ρ (gc (S ++ [r]) z0 (rH ρ))) v' → Q 0 v') (h1 : ¬ x.2.2 = 0 → r.2.2 = 0 → ∀ v', CM v0 n z dp (pc + 1) FB (S ++ [x]) (wH ρ (gc (S ++ [x]) z0 (rH ρ))) v' → Q 0 v')
    (h2 : ¬ x.2.2 = 0 → ¬ r.2.2 = 0 → fit z (x.2.2.toNat + r.2.2.toNat + 1) 0 (rH ρ) = none → ∀ v', CE v0 z 2 0 ρ v' → Q 0 v') (h3 : ¬ x.2.2 = 0 → ¬ r.2.2 = 0 → ∀ a, fit z (x.2.2.toNat + r.2.2.toNat + 1) 0 (rH ρ) = some a → ∀ v', CM v0 n z dp (pc + 1) FB (S ++ [((a : Int), ((3000 + a : Nat) : Int), ((x.2.2.toNat + r.2.2.toNat : Nat) : Int))]) (mkR S (x.2.2.toNat + r.2.2.toNat) a (jnB (bt (v0 14) (rB ρ)) x r) ρ) v' → Q 0 v') : RR t (d + 6) 56 [(2, 31)] v Q := ac_19 hc ha (fun v1 k => by
  obtain ⟨e1, e2⟩ := rd2 k.1.1
  have hx : x ∈ S ++ [x, r] := List.mem_append.mpr (Or.inr List.mem_cons_self)
  have hr : r ∈ S ++ [x, r] := List.mem_append.mpr (Or.inr (List.mem_cons_of_mem _ List.mem_cons_self))
  obtain ⟨c, c1, c2, c3⟩ := (k.2.2.1 x hx).nat hn k.hz
  obtain ⟨c', c1', c2', c3'⟩ := (k.2.2.1 r hr).nat hn k.hz
  have hz := k.1.2.1.1.1
  refine s_71 (d := d + 3) ?_
  rw [k.1.1.1, e1.2.2, e2.1, e2.2.1, e2.2.2]
  refine ⟨fun g => ?_, fun g => ⟨fun g2 => ?_, fun g2 => ?_⟩⟩
  · exact k.repl hl rfl (k.2.2.1 r hr) (fun v' q => h0 g _ q)
  · have k' := k
    rw [show S ++ [x, r] = (S ++ [x]) ++ [r] from by rw [List.append_assoc]; rfl] at k'
    exact k'.pop rfl (fun v' q => h1 g g2 _ q)
  · have h2 := h2 g g2
    have h3 := h3 g g2
    have ec : x.2.2.toNat + r.2.2.toNat = c + c' := by rw [c1, c1', Int.toNat_natCast, Int.toNat_natCast]
    rw [ec] at h2 h3
    rw [c1, c1', wNat (k := c + c') (a := (c : Int) + (c' : Int)) (by omega) (by omega)]
    refine k.make (m := c + c') hk (by omega) ?_ (fun e => ⟨fun _ => h2 e _ k.ends, fun c => absurd rfl c⟩) (fun a v5 f1 f2 f3 f4 => ⟨fun c => absurd c (by omega), fun _ => ?_⟩)
    · have w1 := (k.2.2.1 x hx).cnt hn k.hz
      have w2 := (k.2.2.1 r hr).cnt hn k.hz
      omega
    obtain ⟨s1, s2, s3, s4⟩ := (k.2.2.1 x hx).free hn k.hz k.1.2.1.1.2.1 f1 c1 (by omega)
    obtain ⟨t1, t2, t3, t4⟩ := (k.2.2.1 r hr).free hn k.hz k.1.2.1.1.2.1 f1 c1' (by omega)
    obtain ⟨p1, p2⟩ := rd2 f3.1
    rw [p1.1, f3.2.1.m36 (f3.2.2.1 x hx), p2.1, f3.2.1.m36 (f3.2.2.1 r hr), p1.2.1, s2, wNat (k := 3000 + a) (a := 3000 + (a : Int)) (by omega) (by omega)]
    refine copy_rr (by omega) (by omega) ?_
    obtain ⟨-, p3⟩ := rd2 (f3.cp (a := s1) (b := 3000 + a) (m := c)).1
    rw [p3.2.1, t2, wNat (k := 3000 + a + c) (a := ((3000 + a : Nat) : Int) + (c : Int)) (by omega) (by omega)]
    refine copy_rr (by omega) (by omega) ?_
    refine k.fin (m := c + c') (g := jnB (bt (v0 14) (rB ρ)) x r) hl (by omega) rfl f1 f3.cp.cp (fun y y1 y2 => by rw [cpV_c y1, cpV_c y1]; exact f4 y y2) (fun j hj => by rw [cpV_o (by omega), cpV_o (by omega), f4 14 (by omega)]) (fun p hp => ?_) (fun j hj => by rw [cpV_o (by omega), cpV_o (by omega), f4 14 (by omega)]) (fun v' q => h3 a f1 v' q)
    unfold setB jnB
    rw [c1, s2, t2, Int.toNat_natCast, Int.toNat_natCast, Int.toNat_natCast]
    by_cases g3 : 3000 + a + c ≤ 3000 + p ∧ 3000 + p < 3000 + a + c + c'
    · rw [if_pos (by omega), if_neg (by omega), cpV_i g3, cpV_o (by omega), f4 14 (by omega), show t1 + (3000 + p - (3000 + a + c)) = t1 + (p - a - c) from by omega]
      exact k.2.2.2.2.2.2.1.get (by omega)
    · rw [cpV_o g3]
      by_cases g4 : 3000 + a ≤ 3000 + p ∧ 3000 + p < 3000 + a + c
      · rw [if_pos (by omega), if_pos (by omega), cpV_i g4, f4 14 (by omega), show s1 + (3000 + p - (3000 + a)) = s1 + (p - a) from by omega]
        exact k.2.2.2.2.2.2.1.get (by omega)
      · rw [cpV_o g4, if_neg (by omega), f4 14 (by omega)]
        exact k.2.2.2.2.2.2.1.2.1 p hp)
/-- bytes told -/
def tlA (tl : List Int) (m : Nat) (g : Nat → Int) : List Int := tl ++ (List.range m).map g
theorem tlA_len {tl : List Int} {m : Nat} {g : Nat → Int} : (tlA tl m g).length = tl.length + m := by
  unfold tlA
  rw [List.length_append, List.length_map, List.length_range]
theorem tlA_1 {tl : List Int} {m i : Nat} {g : Nat → Int} (h : i < tl.length) : (tlA tl m g).getD i 0 = tl.getD i 0 := by
  unfold tlA
  rw [List.getD_eq_getElem?_getD, List.getD_eq_getElem?_getD, List.getElem?_append_left h]
theorem tlA_2 {tl : List Int} {m i : Nat} {g : Nat → Int} (h : i < m) : (tlA tl m g).getD (tl.length + i) 0 = g i := by
  unfold tlA
  rw [gdA, List.getD_eq_getElem?_getD, List.getElem?_map, List.getElem?_range h]
  rfl
def wT (ρ : Rho) (tl : List Int) : Rho := (ρ.1, ρ.2.1, tl, ρ.2.2.2)
/-- m bytes from fr on are told -/
theorem CM.tell {v0 v : Mem} {n z dp pc m fr : Nat} {g : Nat → Int} {FB : List (Nat × Nat)} {S : List Rw} {ρ : Rho} {w : Int} (h : CM v0 n z dp pc FB S ρ v) (hg : ∀ j, j < m → v 14 (fr + j) = g j) (hm : (rT ρ).length + m ≤ 2000) (hw : w = (((rT ρ).length + m : Nat) : Int)) : CM v0 n z dp pc FB S (wT ρ (tlA (rT ρ) m g)) (up (cpV v 14 fr 14 (7011 + (rT ρ).length) m) 31 11 w) := by
  obtain ⟨q1, q2, q3, ⟨a1, a2, a3, a4, a5, a6, a7⟩, ⟨b1, b2, b3⟩, h3, ⟨d1, d2, d3⟩, h5⟩ := h
  have e14 : up (cpV v 14 fr 14 (7011 + (rT ρ).length) m) 31 11 w 14 = cpV v 14 fr 14 (7011 + (rT ρ).length) m 14 := up_ne (by decide)
  have e31 : ∀ j, j ≠ 11 → up (cpV v 14 fr 14 (7011 + (rT ρ).length) m) 31 11 w 31 j = v 31 j := fun j hj => by rw [up_nk hj, cpV_c (by decide)]
  refine ⟨q1.cp.u31, q2, q3, ⟨?_, ?_, ?_, ?_, ?_, ?_, ?_⟩, ⟨b1, by show (tlA (rT ρ) m g).length ≤ 2000; rw [tlA_len]; exact hm, b3⟩, fun i hi => by rw [up_ne (by decide), up_ne (by decide), cpV_c (by decide), cpV_c (by decide)]; exact h3 i hi, ⟨fun a ha => ?_, fun p hp => ?_, fun i hi => ?_⟩, fun c c1 c2 c3 => by rw [up_ne (by omega), cpV_c c1]; exact h5 c c1 c2 c3⟩
  · rw [e31 7 (by decide)]; exact a1
  · rw [e31 8 (by decide)]; exact a2
  · rw [e31 9 (by decide)]; exact a3
  · rw [e31 10 (by decide)]; exact a4
  · rw [up_k, hw]
    show _ = (((tlA (rT ρ) m g).length : Nat) : Int)
    rw [tlA_len]
  · rw [e31 12 (by decide)]; exact a6
  · rw [e31 13 (by decide)]; exact a7
  · rw [e14, cpV_o (by omega)]; exact d1 a ha
  · rw [e14, cpV_o (by omega)]; exact d2 p hp
  · have hi : i < (tlA (rT ρ) m g).length := hi
    rw [tlA_len] at hi
    show _ = (tlA (rT ρ) m g).getD i 0
    rw [e14]
    by_cases c : i < (rT ρ).length
    · rw [cpV_o (by omega), tlA_1 c]; exact d3 i c
    · obtain ⟨j, hj⟩ : ∃ j, i = (rT ρ).length + j := ⟨i - (rT ρ).length, by omega⟩
      rw [hj, tlA_2 (by omega), cpV_i (by omega), show 7011 + ((rT ρ).length + j) - (7011 + (rT ρ).length) = j from by omega]
      exact hg j (by omega)
theorem cpV_0 {v : Mem} {a b : Nat} : cpV v 14 a 14 b 0 = v := by
  funext c k
  unfold cpV
  split
  · rw [if_neg (by omega)]
  · rfl
theorem copy_0 {t : Int} {d : Nat} {v : Mem} {Q : Int → Mem → Prop} {p q : Int} (hq : Q 0 v) : RR t (d + 1) 4 [(2, 13), (0, p), (0, q), (0, 0)] v Q := by
  have f6n : ∀ x : Int, ¬ (0 ≤ x ∧ x ≤ 9011) → f_6 x 0 v = 0 := fun x hx => by
    unfold f_6
    by_cases c : x < 0
    · rw [if_pos c]
    · rw [if_neg c, if_neg (by decide), if_neg (by decide), w32_id (by decide) (by decide), if_pos (by omega)]
  refine s_4 ⟨fun _ => hq, fun c1 => ⟨fun _ => hq, fun c2 => ?_⟩⟩
  have g1 : 0 ≤ p ∧ p ≤ 9011 := Classical.byContradiction (fun c => c1 (f6n p c))
  have g2 : 0 ≤ q ∧ q ≤ 9011 := Classical.byContradiction (fun c => c2 (f6n q c))
  refine ⟨⟨by omega, by omega, by omega, by omega, by omega⟩, ?_⟩
  rw [show Int.toNat 0 = 0 from rfl, cpV_0]
  exact hq
theorem at_print {t : Int} {d : Nat} {v0 v : Mem} {Q : Int → Mem → Prop} {n z dp pc : Nat} {FB : List (Nat × Nat)} {S : List Rw} {r : Rw} {ρ : Rho} {f s : Int} (hn : n ≤ 3000) (hc : CM v0 n z dp pc FB (S ++ [r]) ρ v) (ha : actAt v0 pc 13 f s) {m : Nat} {g : Nat → Int} (hmg : (f = 0 ∧ m = dcl r.2.1 ∧ g = dch r.2.1) ∨ (¬ f = 0 ∧ m = r.2.2.toNat ∧ g = fun j => bt (v0 14) (rB ρ) (r.2.1.toNat + j))) (h1 : 2000 < (rT ρ).length + m → ∀ v', CE v0 z 5 0 ρ v' → Q 0 v') (h2 : (rT ρ).length + m ≤ 2000 → ∀ v', CM v0 n z dp (pc + 1) FB S (wH (wT ρ (tlA (rT ρ) m g)) (gc S z0 (rH ρ))) v' → Q 0 v') : RR t (d + 5) 56 [(2, 31)] v Q := ac_13 hc ha (fun v1 k => by
  obtain ⟨e0, e1, e2⟩ : f_139 (w32 ((((S ++ [r]).length : Nat) : Int) - 1)) v1 = r.1 ∧ f_140 (w32 ((((S ++ [r]).length : Nat) : Int) - 1)) v1 = r.2.1 ∧ f_141 (w32 ((((S ++ [r]).length : Nat) : Int) - 1)) v1 = r.2.2 := rdT (T := [r]) (k := 0) (jj := 1) k.1.1 (Nat.lt_succ_self _) rfl
  have hr : r ∈ S ++ [r] := List.mem_append.mpr (Or.inr List.mem_cons_self)
  have b := ((k.2.2.1 r hr).i32 hn k.hz).1
  have bd := dcl_b b.1 b.2
  obtain ⟨c, c1, c2, c3⟩ := (k.2.2.1 r hr).nat hn k.hz
  have tb := k.2.2.2.2.1.2.1
  refine s_63 (d := d + 2) ?_
  rw [k.1.1.1, e0, e1, e2]
  rcases hmg with ⟨f0, hm, hg⟩ | ⟨f0, hm, hg⟩
  · refine ⟨fun _ => wd_rr b.1 b.2 (fun v2 w1 w2 => ?_), fun q => absurd f0 q⟩
    have k2 := k.dig w1
    obtain ⟨e0, -, -⟩ : f_139 (w32 ((((S ++ [r]).length : Nat) : Int) - 1)) v2 = r.1 ∧ f_140 (w32 ((((S ++ [r]).length : Nat) : Int) - 1)) v2 = r.2.1 ∧ f_141 (w32 ((((S ++ [r]).length : Nat) : Int) - 1)) v2 = r.2.2 := rdT (T := [r]) (k := 0) (jj := 1) k2.1.1 (Nat.lt_succ_self _) rfl
    have t2 := k2.2.2.2.1.2.2.2.2.1
    rw [e0, k2.m36 hr, t2, wNat (k := dcl r.2.1) (a := 7011 - ((7011 - dcl r.2.1 : Nat) : Int)) (by omega) (by omega), w32_id (a := 2000 - (((rT ρ).length : Nat) : Int)) (by omega) (by omega)]
    refine ⟨fun q => h1 (by omega) _ k2.ends, fun q => ?_⟩
    rw [wNat (k := 7011 + (rT ρ).length) (a := 7011 + (((rT ρ).length : Nat) : Int)) (by omega) (by omega)]
    refine copy_rr (by omega) (by omega) ?_
    rw [cpV_c (by decide), t2, wNat (k := (rT ρ).length + dcl r.2.1) (a := (((rT ρ).length : Nat) : Int) + ((dcl r.2.1 : Nat) : Int)) (by omega) (by omega)]
    have k3 := k2.tell (m := dcl r.2.1) (fr := 7011 - dcl r.2.1) (g := dch r.2.1) w2 (by omega) rfl
    rw [hm, hg] at h2
    exact k3.pop rfl (fun v' q' => h2 (by omega) _ q')
  · refine ⟨fun q => absurd q f0, fun _ => ?_⟩
    have t2 := k.2.2.2.1.2.2.2.2.1
    have hm : m = c := by rw [hm, c1, Int.toNat_natCast]
    subst hm
    rw [k.m36 hr, t2, c1, w32_id (a := 2000 - (((rT ρ).length : Nat) : Int)) (by omega) (by omega)]
    refine ⟨fun q => h1 (by omega) _ k.ends, fun q => ?_⟩
    rw [wNat (k := 7011 + (rT ρ).length) (a := 7011 + (((rT ρ).length : Nat) : Int)) (by omega) (by omega)]
    rw [hg] at h2
    by_cases m0 : m = 0
    · subst m0
      refine copy_0 ?_
      rw [t2, wNat (k := (rT ρ).length + 0) (a := (((rT ρ).length : Nat) : Int) + ((0 : Nat) : Int)) (by omega) (by omega)]
      have k3 := k.tell (m := 0) (fr := 0) (g := fun j => bt (v0 14) (rB ρ) (r.2.1.toNat + j)) (fun j hj => absurd hj (by omega)) (by omega) rfl
      rw [cpV_0] at k3
      exact k3.pop rfl (fun v' q' => h2 (by omega) _ q')
    · obtain ⟨s0, s1, s2⟩ := c3 (by omega)
      rw [s1, Int.toNat_natCast] at h2
      rw [s1]
      refine copy_rr (by omega) (by omega) ?_
      rw [cpV_c (by decide), t2, wNat (k := (rT ρ).length + m) (a := (((rT ρ).length : Nat) : Int) + ((m : Nat) : Int)) (by omega) (by omega)]
      have k3 := k.tell (m := m) (fr := s0) (g := fun j => bt (v0 14) (rB ρ) (s0 + j)) (fun j hj => k.2.2.2.2.2.2.1.get (by omega)) (by omega) rfl
      exact k3.pop rfl (fun v' q' => h2 (by omega) _ q'))
