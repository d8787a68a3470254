/-! Class and reference side by side, between two calls of the law. -/
theorem CLD.same {v v' : Mem} {u : Nat → Int} {n : Nat} {l : List FnT} (h : CLD v u n l) (hc : ∀ c, 1 ≤ c → c ≤ 11 → v' c = v c) (h14 : ∀ k, k < n → v' 14 k = v 14 k) : CLD v' u n l := by
  obtain ⟨a1, a2, a3, a4, a5, a6⟩ := h
  refine ⟨?_, by rw [hc 8 (by decide) (by decide)]; exact a2, a3, AtC_same _ _ (fun c k c1 c2 _ _ => by rw [hc c (by omega) c2]) a4, ENT.same _ _ _ (fun c k hc' _ _ => by rw [hc c (by omega) (by omega)]) a5, ?_⟩
  · unfold FNS at *
    rw [hc 1 (by decide) (by decide), hc 2 (by decide) (by decide), hc 3 (by decide) (by decide), hc 4 (by decide) (by decide), hc 5 (by decide) (by decide)]
    exact a1
  · rw [← a6]
    funext k
    unfold uB
    by_cases c : k < n
    · rw [if_pos c, if_pos c, h14 k c]
    · rw [if_neg c, if_neg c]
/-- the same bytes are on both tapes -/
def TAP (v : Mem) (nf : Nat) : Prop := nf ≤ 3200 ∧ v 0 5 = (nf : Int) ∧ v 38 1 = (nf : Int) ∧ ∀ j, j < nf → v 12 j = v 39 j ∧ -128 ≤ v 12 j ∧ v 12 j < 128
def BSC (v : Mem) : Prop := KWI v ∧ (∃ c : Nat, v 28 2 = c ∧ c ≤ 30) ∧ (∀ k, 38 ≤ k → k ≤ 41 → 0 ≤ v 38 k) ∧ (∀ k, k < 3000 → -128 ≤ v 14 k ∧ v 14 k < 128) ∧ ∀ k, -128 ≤ v 12 k ∧ v 12 k < 128
/-- what was read last -/
def PRG (v : Mem) : Prop := f_174 v = v 38 6 ∧ ((v 0 6 = -1 ∧ v 38 4 = 0) ∨ (v 38 4 = 1 ∧ v 38 5 = v 0 6 ∧ (v 0 6 = 0 → ∃ u n l, GOOD u n l ∧ CLD v u n l ∧ RLD v u n l)))
/-- what was run last -/
def RAN (v : Mem) : Prop := (v 0 7 = 0 ∧ v 38 48 = 0) ∨ (v 0 7 = 1 ∧ v 38 48 = 1 ∧ ∃ z res ρ, OBC v z res ρ ∧ OBR v z res ρ)
def INV (v : Mem) : Prop := (∃ nf, TAP v nf) ∧ BSC v ∧ PRG v ∧ RAN v
theorem f174_same {v v' : Mem} (h6 : v' 0 6 = v 0 6) (h22 : v' 22 = v 22) : f_174 v' = f_174 v := by
  unfold f_174 f_81
  rw [h6, h22]
theorem BSC.same {v v' : Mem} (h : BSC v) (h27 : v' 27 = v 27) (h28 : v' 28 = v 28) (h14 : ∀ k, k < 3000 → v' 14 k = v 14 k) (h38 : ∀ k, 38 ≤ k → k ≤ 41 → v' 38 k = v 38 k) (h12 : ∀ k, -128 ≤ v' 12 k ∧ v' 12 k < 128) : BSC v' := by
  obtain ⟨a1, a2, a3, a4, -⟩ := h
  refine ⟨?_, by rw [h28]; exact a2, fun k k1 k2 => by rw [h38 k k1 k2]; exact a3 k k1 k2, fun k hk => by rw [h14 k hk]; exact a4 k hk, h12⟩
  unfold KWI at *
  rw [h27]
  exact a1
theorem PRG.same {v v' : Mem} (h : PRG v) (h0 : v' 0 6 = v 0 6) (hc : ∀ c, 1 ≤ c → c ≤ 11 → v' c = v c) (h14 : ∀ k, k < 3000 → v' 14 k = v 14 k) (h22 : v' 22 = v 22) (hr : ∀ c, 40 ≤ c → c ≤ 62 → v' c = v c) (h38 : ∀ k, (3 ≤ k ∧ k ≤ 6) ∨ k = 13 ∨ k = 46 → v' 38 k = v 38 k) : PRG v' := by
  obtain ⟨a1, a2⟩ := h
  refine ⟨by rw [f174_same h0 h22, h38 6 (by omega)]; exact a1, ?_⟩
  rw [h0, h38 4 (by omega), h38 5 (by omega)]
  rcases a2 with a2 | ⟨b1, b2, b3⟩
  · exact Or.inl a2
  · refine Or.inr ⟨b1, b2, fun e => ?_⟩
    obtain ⟨u, n, l, g1, g2, g3⟩ := b3 e
    exact ⟨u, n, l, g1, g2.same hc (fun k hk => h14 k (by have := g1.1; omega)), g3.same (fun q hq => PPr_wf _ _ _ _ l g1.2.1 q hq) hr (h38 13 (by omega)) (h38 46 (by omega)) (h38 3 (by omega))⟩
theorem RAN.same {v v' : Mem} (h : RAN v) (h0 : v' 0 7 = v 0 7) (hc : ∀ c, (14 ≤ c ∧ c ≤ 20) ∨ c = 31 → v' c = v c) (hr : ∀ c, 73 ≤ c → c ≤ 79 → v' c = v c) (h38 : ∀ k, k = 48 ∨ (65 ≤ k ∧ k ≤ 74) → v' 38 k = v 38 k) : RAN v' := by
  unfold RAN
  rw [h0, h38 48 (by omega)]
  rcases h with h | ⟨a1, a2, z, res, ρ, a3, a4⟩
  · exact Or.inl h
  · exact Or.inr ⟨a1, a2, z, res, ρ, a3.same hc, a4.same hr (fun k k1 k2 => h38 k (by omega))⟩
/-- only the reference's `thrown` changes -/
theorem INV.thr {v : Mem} {a : Int} (h : INV v) : INV (up v 38 7 a) := by
  obtain ⟨⟨nf, a0, a1, a2, a3⟩, b, c, d⟩ := h
  refine ⟨⟨nf, a0, by rw [up_ne (by decide)]; exact a1, by rw [up_nk (by decide)]; exact a2, fun j hj => by rw [up_ne (by decide), up_ne (by decide)]; exact a3 j hj⟩, ?_, ?_, ?_⟩
  · exact b.same (up_ne (by decide)) (up_ne (by decide)) (fun k _ => by rw [up_ne (by decide)]) (fun k k1 k2 => up_nk (by omega)) (fun k => by rw [up_ne (by decide)]; exact b.2.2.2.2 k)
  · exact c.same (by rw [up_ne (by decide)]) (fun c c1 c2 => up_ne (by omega)) (fun k hk => by rw [up_ne (by decide)]) (up_ne (by decide)) (fun c c1 c2 => up_ne (by omega)) (fun k hk => up_nk (by omega))
  · exact d.same (by rw [up_ne (by decide)]) (fun c hc => up_ne (by omega)) (fun c c1 c2 => up_ne (by omega)) (fun k hk => up_nk (by omega))
/-! feed -/
theorem op_feed {t : Int} {d m : Nat} {x : Int} {v : Mem} (h : INV v) (m1 : 1 ≤ m) (m8 : m ≤ 8) (hs : v 0 5 + (m : Int) ≤ 3200) : RR t d 172 [(2, 0), (1, x), (0, (m : Int))] v (fun b v1 => RR t d 183 [(2, 38), (1, x), (0, (m : Int))] v1 (fun b' v2 => b' = b ∧ v2 38 7 = 0 ∧ INV v2)) := by
  obtain ⟨⟨nf, a0, a1, a2, a3⟩, b, c, r⟩ := h
  rw [a1] at hs
  have hs' : nf + m ≤ 3200 := by omega
  refine feed_c a1 m1 m8 hs' (fun w1 f1 => feed_r (by rw [f1.2.2.2.2.1 38 (by decide) (by decide)]; exact a2) m1 m8 hs' (fun w2 f2 => ⟨rfl, by rw [f2.2.2.2.1 7 (by decide), up_k], ?_⟩))
  obtain ⟨p1, p2, p3, p4, p5, p6⟩ := f1
  obtain ⟨q1, q2, q3, q4, q5, -⟩ := f2
  have c1 : ∀ c, c ≠ 38 → c ≠ 39 → c ≠ 0 → c ≠ 12 → w2 c = v c := fun c k1 k2 k3 k4 => by rw [q5 c k1 k2, up_ne k1, p5 c k3 k4]
  have c2 : ∀ k, k ≠ 1 → k ≠ 7 → w2 38 k = v 38 k := fun k k1 k2 => by rw [q4 k k1, up_nk k2, p5 38 (by decide) (by decide)]
  have c3 : ∀ k, k ≠ 5 → w2 0 k = v 0 k := fun k k1 => by rw [q5 0 (by decide) (by decide), up_ne (by decide), p4 k k1]
  have e12 : ∀ j, w2 12 j = w1 12 j := fun j => by rw [q5 12 (by decide) (by decide), up_ne (by decide)]
  refine ⟨⟨nf + m, hs', by rw [q5 0 (by decide) (by decide), up_ne (by decide)]; exact p1, q1, fun j hj => ?_⟩, ?_, ?_, ?_⟩
  · rw [e12]
    by_cases e : j < nf
    · rw [p3 j e, q3 j e, up_ne (by decide), p5 39 (by decide) (by decide)]
      exact a3 j e
    · obtain ⟨i, rfl⟩ : ∃ i, j = nf + i := ⟨j - nf, by omega⟩
      rw [p2 i (by omega), q2 i (by omega)]
      exact ⟨rfl, fbt_r x i⟩
  · refine b.same (c1 27 (by decide) (by decide) (by decide) (by decide)) (c1 28 (by decide) (by decide) (by decide) (by decide)) (fun k _ => by rw [c1 14 (by decide) (by decide) (by decide) (by decide)]) (fun k k1 k2 => c2 k (by omega) (by omega)) (fun k => ?_)
    rw [e12]
    rcases p6 k with e | ⟨y, e⟩
    · rw [e]; exact b.2.2.2.2 k
    · rw [e]; exact fbt_r x y
  · exact c.same (c3 6 (by decide)) (fun c k1 k2 => c1 c (by omega) (by omega) (by omega) (by omega)) (fun k hk => by rw [c1 14 (by decide) (by decide) (by decide) (by decide)]) (c1 22 (by decide) (by decide) (by decide) (by decide)) (fun c k1 k2 => c1 c (by omega) (by omega) (by omega) (by omega)) (fun k hk => c2 k (by omega) (by omega))
  · exact r.same (c3 7 (by decide)) (fun c hc => c1 c (by omega) (by omega) (by omega) (by omega)) (fun c k1 k2 => c1 c (by omega) (by omega) (by omega) (by omega)) (fun k hk => c2 k (by omega) (by omega))
theorem op_feed_x {t : Int} {d : Nat} {x a : Int} {v : Mem} (h : INV v) (hs : a < 1 ∨ 8 < a ∨ 3200 < v 0 5 + a) : RR t d 183 [(2, 38), (1, x), (0, a)] v (fun _ v2 => v2 38 7 = 1 ∧ INV v2) := by
  obtain ⟨nf, a0, a1, a2, a3⟩ := h.1
  rw [a1] at hs
  exact feed_x a2 a0 hs ⟨up_k, h.thr⟩
/-! place -/
theorem op_place {t : Int} {d : Nat} {v : Mem} (h : INV v) : RR t (d + 1) 174 [(2, 0)] v (fun b v1 => RR t d 230 [(2, 38)] v1 (fun b' v2 => b' = b ∧ v2 38 7 = 0 ∧ INV v2)) := p_174 (w_230 ⟨h.2.2.1.1.symm, up_k, h.thr⟩)
/-! told, letter, whose, wrong -/
theorem RAN.one {v : Mem} (h : RAN v) : (v 0 7 = 0 ∧ v 38 48 = 0) ∨ (¬ v 0 7 = 0 ∧ ¬ v 38 48 = 0 ∧ ∃ z res ρ, OBC v z res ρ ∧ OBR v z res ρ) := by
  rcases h with h | ⟨a1, a2, a3⟩
  · exact Or.inl h
  · exact Or.inr ⟨by omega, by omega, a3⟩
theorem op_told {t : Int} {d : Nat} {a : Int} {v : Mem} (h : INV v) (h7 : ¬ v 0 7 = 0) (a0 : 0 ≤ a) (a7 : a ≤ 7) : LL t (d + 2) 176 4 [(2, 0), (0, a)] [] v (fun b v1 => v1 = v ∧ RR t (d + 2) 257 [(2, 38), (0, a)] v1 (fun b' v2 => b' = b ∧ v2 38 7 = 0 ∧ INV v2)) := by
  rcases h.2.2.2.one with ⟨e, -⟩ | ⟨-, h48, z, res, ρ, o1, o2⟩
  · exact absurd e h7
  · exact told_c o1 a0 a7 ⟨rfl, told_r o2 h48 a0 a7 ⟨rfl, up_k, h.thr⟩⟩
theorem op_told_x {t : Int} {d : Nat} {a : Int} {v : Mem} (h : INV v) (hx : v 0 7 = 0 ∨ a < 0 ∨ 7 < a) : RR t (d + 2) 257 [(2, 38), (0, a)] v (fun _ v2 => v2 38 7 = (if v 0 7 = 0 then 1 else 2) ∧ INV v2) := by
  rcases h.2.2.2.one with ⟨e, e'⟩ | ⟨h7, h48, -⟩
  · refine told_x (Or.inl e') ⟨?_, h.thr⟩
    rw [up_k, if_pos e, if_pos e']
  · refine told_x (hx.elim (fun e => absurd e h7) Or.inr) ⟨?_, h.thr⟩
    rw [up_k, if_neg h7, if_neg h48]
theorem op_letter {t : Int} {d : Nat} {a : Int} {v : Mem} (h : INV v) (h7 : ¬ v 0 7 = 0) : LL t (d + 1) 177 4 [(2, 0), (0, a)] [] v (fun b v1 => v1 = v ∧ RR t d 259 [(2, 38), (0, a)] v1 (fun b' v2 => b' = b ∧ v2 38 7 = 0 ∧ INV v2)) := by
  rcases h.2.2.2.one with ⟨e, -⟩ | ⟨-, h48, z, res, ρ, o1, o2⟩
  · exact absurd e h7
  · exact letter_c o1 ⟨rfl, letter_r o2 h48 ⟨rfl, up_k, h.thr⟩⟩
theorem op_letter_x {t : Int} {d : Nat} {a : Int} {v : Mem} (h : INV v) (h7 : v 0 7 = 0) : RR t d 259 [(2, 38), (0, a)] v (fun _ v2 => v2 38 7 = 1 ∧ INV v2) := by
  rcases h.2.2.2.one with ⟨e, e'⟩ | ⟨q, -⟩
  · exact letter_x e' ⟨up_k, h.thr⟩
  · exact absurd h7 q
theorem op_whose {t : Int} {d : Nat} {a : Int} {v : Mem} (h : INV v) (h7 : ¬ v 0 7 = 0) (a0 : 0 ≤ a) (az : a < v 15 6) : LL t (d + 2) 178 4 [(2, 0), (0, a)] [] v (fun b v1 => v1 = v ∧ RR t d 260 [(2, 38), (0, a)] v1 (fun b' v2 => b' = b ∧ v2 38 7 = 0 ∧ INV v2)) := by
  rcases h.2.2.2.one with ⟨e, -⟩ | ⟨-, h48, z, res, ρ, o1, o2⟩
  · exact absurd e h7
  · obtain ⟨rc, hc⟩ := o1.1
    rw [hc.2.1.1] at az
    obtain ⟨k, rfl⟩ : ∃ k : Nat, a = (k : Int) := ⟨a.toNat, by omega⟩
    exact whose_c o1 (by omega) ⟨rfl, whose_r o2 h48 (by omega) ⟨rfl, up_k, h.thr⟩⟩
theorem op_whose_x {t : Int} {d : Nat} {a : Int} {v : Mem} (h : INV v) (hx : v 0 7 = 0 ∨ a < 0 ∨ v 15 6 ≤ a) : RR t d 260 [(2, 38), (0, a)] v (fun _ v2 => v2 38 7 = (if v 0 7 = 0 then 1 else 2) ∧ INV v2) := by
  rcases h.2.2.2.one with ⟨e, e'⟩ | ⟨h7, h48, z, res, ρ, o1, o2⟩
  · refine whose_x (Or.inl e') ⟨?_, h.thr⟩
    rw [up_k, if_pos e, if_pos e']
  · obtain ⟨rc, hc⟩ := o1.1
    obtain ⟨J, hJ, -⟩ := o2.1
    have e6 : v 15 6 = v 38 65 := hc.2.1.1.trans hJ.1.2.1.symm
    rw [e6] at hx
    refine whose_x (hx.elim (fun e => absurd e h7) Or.inr) ⟨?_, h.thr⟩
    rw [up_k, if_neg h7, if_neg h48]
theorem op_wrong {t : Int} {d : Nat} {v : Mem} (h : INV v) (h7 : ¬ v 0 7 = 0) : LL t (d + 1) 179 4 [(2, 0)] [] v (fun b v1 => v1 = v ∧ RR t d 261 [(2, 38)] v1 (fun b' v2 => b' = b ∧ v2 38 7 = 0 ∧ INV v2)) := by
  rcases h.2.2.2.one with ⟨e, -⟩ | ⟨-, h48, z, res, ρ, o1, o2⟩
  · exact absurd e h7
  · exact wrong_c o1 ⟨rfl, wrong_r ⟨rfl, by rw [up_k, if_neg h48], h.thr⟩⟩
theorem op_wrong_x {t : Int} {d : Nat} {v : Mem} (h : INV v) (h7 : v 0 7 = 0) : RR t d 261 [(2, 38)] v (fun _ v2 => v2 38 7 = 1 ∧ INV v2) := by
  rcases h.2.2.2.one with ⟨e, e'⟩ | ⟨q, -⟩
  · exact wrong_r ⟨by rw [up_k, if_pos e'], h.thr⟩
  · exact absurd h7 q
