/-! read and run, side by side. -/
theorem GOOD.one {u : Nat → Int} {n : Nat} {l l' : List FnT} (h : GOOD u n l) (h' : GOOD u n l') : l = l' := by
  have := h.2.1.symm.trans h'.2.1
  injection this with this
  injection this
theorem op_read {t : Int} {d d' : Nat} {v : Mem} (h : INV v) (hd : dB 0 + 10 ≤ d) (hd' : 563 ≤ d') : ∃ t', (t' = t ∨ t' = 12) ∧ XT t t' (d + 3) 173 0 [(2, 0)] [] v (fun b v1 => ∀ t'', RR t'' d' 229 [(2, 38)] v1 (fun b' v2 => b' = b ∧ v2 38 7 = 0 ∧ INV v2)) := by
  obtain ⟨⟨nf, a0, a1, a2, a3⟩, ⟨b1, b2, b3, b4, b5⟩, -, -⟩ := h
  have ht : TXT 12 v nf := ⟨a0, fun k hk => (a3 k hk).2⟩
  refine read_xt (u := uB (v 12) nf) hd a1 a0 ht b1 rfl b2 (fun x v1 r1 r2 r3 r4 t'' => ?_)
  obtain ⟨⟨c1, c2, c3⟩, c4, c5, c6, c7, c8⟩ := r3
  have e38 : v1 38 = v 38 := c4 38 (by decide) (by omega) (by decide) (by omega)
  have e39 : v1 39 = v 39 := c4 39 (by decide) (by omega) (by decide) (by omega)
  have e12 : v1 12 = v 12 := c4 12 (by decide) (by omega) (by decide) (by omega)
  have e27 : v1 27 = v 27 := c4 27 (by decide) (by omega) (by decide) (by omega)
  have hu : uB (v1 39) nf = uB (v 12) nf := by
    rw [e39]
    funext k
    unfold uB
    by_cases c : k < nf
    · rw [if_pos c, if_pos c, (a3 k c).1]
    · rw [if_neg c, if_neg c]
  refine read_rr (u := uB (v 12) nf) hd' a0 (by rw [e38]; exact a2) (fun j hj => by rw [e39, ← (a3 j hj).1]; exact (a3 j hj).2) hu (fun k k1 k2 => by rw [e38]; exact b3 k k1 k2) (fun v2 q1 q2 q3 => ?_)
  obtain ⟨u1, u2⟩ := RD_u q1 r1
  obtain ⟨f1, f2, ⟨f3, f4, f5, f6, f7⟩, f8⟩ := q2
  have cl : ∀ c, c < 38 → v2 c = v1 c := fun c hc => f1 c (by omega) (by omega)
  have e06 : v2 0 6 = x := by rw [cl 0 (by decide)]; exact r2
  refine ⟨u1, f6, ⟨0, Nat.zero_le _, by rw [cl 0 (by decide)]; exact c1, f3, fun j hj => absurd hj (Nat.not_lt_zero _)⟩, ⟨?_, by rw [cl 28 (by decide)]; exact c5, f8 (fun k k1 k2 => by rw [e38]; exact b3 k k1 k2), fun k hk => ?_, fun k => by rw [cl 12 (by decide), e12]; exact b5 k⟩, ⟨?_, Or.inr ⟨f5, by rw [u1, e06], fun e => ?_⟩⟩, Or.inl ⟨by rw [cl 0 (by decide)]; exact c2, f7⟩⟩
  · unfold KWI at *
    rw [cl 27 (by decide), e27]
    exact b1
  · rw [cl 14 (by decide)]
    rcases c8 k hk with e | e
    · rw [e]; exact b4 k hk
    · rw [e]; exact b5 k
  · rw [f174_same (by rw [cl 0 (by decide)]) (cl 22 (by decide))]
    exact u2.symm
  · rw [e06] at e
    obtain ⟨l, g1, g2⟩ := r4 e
    obtain ⟨l', g3, g4⟩ := q3 (u1.trans e)
    have hl := g1.one g3
    subst hl
    exact ⟨_, _, l, g1, g2.same (fun c c1 c2 => cl c (by omega)) (fun k hk => by rw [cl 14 (by decide)]), g4⟩
theorem op_run {t : Int} {D d z dp : Nat} {v : Mem} (h : INV v) (h6 : v 0 6 = 0) (hz : z ≤ 4000) (h1 : 1 ≤ dp) (h2 : dp ≤ 12) (hd : 1470 ≤ d) : RR t (D + 22) 175 [(2, 0), (0, (z : Int)), (0, (dp : Int))] v (fun b v1 => RR t d 256 [(2, 38), (0, (z : Int)), (0, (dp : Int))] v1 (fun b' v2 => b' = b ∧ v2 38 7 = 0 ∧ INV v2)) := by
  obtain ⟨⟨nf, a0, a1, a2, a3⟩, hb, hp, hr⟩ := h
  obtain ⟨-, ⟨e, -⟩ | ⟨p4, p5, p6⟩⟩ := id hp
  · rw [h6] at e; exact absurd e (by decide)
  obtain ⟨u, n, l, hg, hC, hR⟩ := p6 h6
  have hn := hg.1
  have hwf : ∀ q ∈ l, wfF (kd u n) q := fun q hq => PPr_wf _ _ _ _ l hg.2.1 q hq
  refine s_175 (d := D + 21) ⟨fun _ => ⟨fun c => absurd c (by omega), fun _ => ⟨fun c => absurd c (by omega), fun _ => ⟨fun c => absurd c (by omega), fun _ => ⟨fun c => absurd c (by omega), fun _ => ?_⟩⟩⟩⟩, fun c => absurd h6 c⟩
  generalize hv1 : up v 0 7 1 = v1
  have w1 : ∀ c, c ≠ 0 → v1 c = v c := fun c hc => by rw [← hv1, up_ne hc]
  have w0 : ∀ k, k ≠ 7 → v1 0 k = v 0 k := fun k hk => by rw [← hv1, up_nk hk]
  have w7 : v1 0 7 = 1 := by rw [← hv1, up_k]
  have hC1 : CLD v1 u n l := hC.same (fun c c1 c2 => w1 c (by omega)) (fun k _ => by rw [w1 14 (by decide)])
  -- behind both
  have key : ∀ (k res : Int) (ρ : Rho) (v2 v3 : Mem), CE v1 z k res ρ v2 → RFi (up (up v2 38 7 0) 38 48 1) z k res ρ v3 → v3 38 7 = 0 ∧ INV v3 := by
    intro k res ρ v2 v3 c2 r3
    have oc := c2.obc
    have or3 := r3.obr
    obtain ⟨-, -, -, cb, cm⟩ := c2
    obtain ⟨f1, f2⟩ := r3.2.2.2.2.2
    have k1 : ∀ c, c < 66 → c ≠ 38 → v3 c = v2 c := fun c c1 c2 => by rw [f1 c (Or.inl c1) c2, up_ne c2, up_ne c2]
    have k2 : ∀ k, k < 49 → k ≠ 7 → k ≠ 48 → v3 38 k = v2 38 k := fun k q1 q2 q3 => by rw [f2 k (Or.inl q1), up_nk q3, up_nk q2]
    have k3 : ∀ c, c ≠ 0 → c ≠ 14 → (c < 15 ∨ 21 < c) → (c < 31 ∨ 37 < c) → v2 c = v c := fun c q0 q1 q2 q3 => by rw [cm c q1 q2 q3, w1 c q0]
    have k38 : ∀ k, k < 49 → k ≠ 7 → k ≠ 48 → v3 38 k = v 38 k := fun k q1 q2 q3 => by rw [k2 k q1 q2 q3, k3 38 (by decide) (by decide) (by omega) (by omega)]
    have k0 : ∀ k, k ≠ 7 → v3 0 k = v 0 k := fun k hk => by rw [k1 0 (by decide) (by decide), cm 0 (by decide) (by omega) (by omega), w0 k hk]
    have kc : ∀ c, c < 66 → c ≠ 38 → c ≠ 0 → c ≠ 14 → (c < 15 ∨ 21 < c) → (c < 31 ∨ 37 < c) → v3 c = v c := fun c q1 q2 q3 q4 q5 q6 => by rw [k1 c q1 q2, k3 c q3 q4 q5 q6]
    have k14 : ∀ j, j < 3000 → v3 14 j = v 14 j := fun j hj => by rw [k1 14 (by decide) (by decide), cb.1 j hj, w1 14 (by decide)]
    refine ⟨by rw [f2 7 (by omega), up_nk (by decide), up_k], ⟨nf, a0, by rw [k0 5 (by decide)]; exact a1, by rw [k38 1 (by decide) (by decide) (by decide)]; exact a2, fun j hj => by rw [kc 12 (by decide) (by decide) (by decide) (by decide) (by omega) (by omega), kc 39 (by decide) (by decide) (by decide) (by decide) (by omega) (by omega)]; exact a3 j hj⟩, ?_, ?_, Or.inr ⟨?_, ?_, z, res, ρ, ?_, or3⟩⟩
    · exact hb.same (kc 27 (by decide) (by decide) (by decide) (by decide) (by omega) (by omega)) (kc 28 (by decide) (by decide) (by decide) (by decide) (by omega) (by omega)) k14 (fun k q1 q2 => k38 k (by omega) (by omega) (by omega)) (fun k => by rw [kc 12 (by decide) (by decide) (by decide) (by decide) (by omega) (by omega)]; exact hb.2.2.2.2 k)
    · exact hp.same (k0 6 (by decide)) (fun c q1 q2 => kc c (by omega) (by omega) (by omega) (by omega) (by omega) (by omega)) k14 (kc 22 (by decide) (by decide) (by decide) (by decide) (by omega) (by omega)) (fun c q1 q2 => kc c (by omega) (by omega) (by omega) (by omega) (by omega) (by omega)) (fun k hk => k38 k (by omega) (by omega) (by omega))
    · rw [k1 0 (by decide) (by decide), cm 0 (by decide) (by omega) (by omega), w7]
    · rw [f2 48 (by omega), up_k]
    · exact oc.same (fun c hc => k1 c (by omega) (by omega))
  -- the reference behind the class
  have ref : ∀ (k res : Int) (ρ : Rho) (v2 : Mem) (Q : Int → Mem → Prop), CE v1 z k res ρ v2 → (match cal u n (l.map (fnOf u n)) (v1 14) z l dp (fno (l.map (fnOf u n)) 660205) [] (rho0 v1) with
      | .error e => ∀ v', RFi (up (up v2 38 7 0) 38 48 1) z e.1 0 e.2 v' → Q e.1 v'
      | .ok q => ∀ v', RFi (up (up v2 38 7 0) 38 48 1) z 0 (g2 q.1 0).2.1 q.2 v' → Q 0 v') → RR t d 256 [(2, 38), (0, (z : Int)), (0, (dp : Int))] v2 Q := by
    intro k res ρ v2 Q c2 hq
    obtain ⟨-, -, -, cb, cm⟩ := c2
    have k3 : ∀ c, 38 ≤ c → v2 c = v c := fun c q => by rw [cm c (by omega) (by omega) (by omega), w1 c (by omega)]
    have hR2 : RLD v2 u n l := hR.same hwf (fun c c1 c2 => k3 c (by omega)) (by rw [k3 38 (by decide)]) (by rw [k3 38 (by decide)]) (by rw [k3 38 (by decide)])
    refine run_rr hR2 hg (fun a ha => ?_) ⟨rfl, rfl, rfl, rfl, rfl⟩ (by rw [k3 38 (by decide), p4]; decide) (by rw [k3 38 (by decide), p5]; exact h6) hz h1 h2 hd hq
    have x1 := hR.2.2.2.2.2.1.2 a ha
    have x2 := hb.2.2.2.1 a (by omega)
    have x3 : uB (v 40) n a = uB (v 14) n a := by rw [hR.2.2.2.2.2.2, hC.2.2.2.2.2]
    unfold uB at x3
    rw [if_pos ha, if_pos ha] at x3
    rw [k3 40 (by decide), w1 14 (by decide)]
    omega
  refine start_rr hC1 hg hz h1 h2 ?_
  cases hr : cal u n (l.map (fnOf u n)) (v1 14) z l dp (fno (l.map (fnOf u n)) 660205) [] (rho0 v1) with
  | error e =>
    intro v2 c2
    refine ref _ _ _ v2 _ c2 ?_
    rw [hr]
    exact fun v3 r3 => ⟨rfl, key _ _ _ v2 v3 c2 r3⟩
  | ok q =>
    intro v2 c2
    refine ref _ _ _ v2 _ c2 ?_
    rw [hr]
    exact fun v3 r3 => ⟨rfl, key _ _ _ v2 v3 c2 r3⟩
theorem op_run_x {t : Int} {d : Nat} {a b : Int} {v : Mem} (h : INV v) (hx : ¬ v 0 6 = 0 ∨ a < 0 ∨ 4000 < a ∨ b < 1 ∨ 12 < b) : RR t d 256 [(2, 38), (0, a), (0, b)] v (fun _ v2 => v2 38 7 = (if v 0 6 = 0 then 2 else 1) ∧ INV v2) := by
  obtain ⟨-, ⟨e, e4⟩ | ⟨e4, e5, -⟩⟩ := h.2.2.1
  · have q : (if v 0 6 = 0 then (2 : Int) else 1) = 1 := by rw [if_neg (by omega)]
    rw [q]
    exact w_256 ⟨fun _ => ⟨fun c => absurd c (by decide), fun _ => ⟨up_k, h.thr⟩⟩, fun c => absurd e4 c⟩
  · by_cases c6 : v 0 6 = 0
    · rw [if_pos c6]
      have z2 : up v 38 7 2 38 7 = 2 ∧ INV (up v 38 7 2) := ⟨up_k, h.thr⟩
      refine w_256 ⟨fun c => absurd c (by omega), fun _ => ⟨fun _ => ⟨fun _ => ⟨fun c => absurd c (by decide), fun _ => z2⟩, fun c1 => ⟨fun _ => ⟨fun c => absurd c (by decide), fun _ => z2⟩, fun c2 => ⟨fun _ => ⟨fun c => absurd c (by decide), fun _ => z2⟩, fun c3 => ⟨fun _ => ⟨fun c => absurd c (by decide), fun _ => z2⟩, fun c4 => ?_⟩⟩⟩⟩, fun c => absurd (e5.trans c6) c⟩⟩
      omega
    · rw [if_neg c6]
      exact w_256 ⟨fun c => absurd c (by omega), fun _ => ⟨fun c => absurd (e5.symm.trans c) c6, fun _ => ⟨fun c => absurd c (by decide), fun _ => ⟨up_k, h.thr⟩⟩⟩⟩
