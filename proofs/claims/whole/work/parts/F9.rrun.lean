/-! The reference runs a PROGRAM. -/
theorem RLD.same {v v' : Mem} {u : Nat → Int} {n : Nat} {l : List FnT} (h : RLD v u n l) (hw : ∀ q ∈ l, wfF (kd u n) q) (hc : ∀ c, 40 ≤ c → c ≤ 62 → v' c = v c) (h13 : v' 38 13 = v 38 13) (h46 : v' 38 46 = v 38 46) (h3 : v' 38 3 = v 38 3) : RLD v' u n l := by
  obtain ⟨⟨st', nd', r1, r2, r3⟩, a1, a2, a3, a4, a5, a6⟩ := h
  refine ⟨⟨st', nd', RPr2_same (fun c k c1 c2 => by rw [hc c (by omega) c2]) _ _ _ _ _ _ _ hw r1, r2, r3⟩, by rw [h13]; exact a1, a2, by rw [h46]; exact a3, by rw [h3]; exact a4, ?_, by rw [hc 40 (by decide) (by decide)]; exact a6⟩
  unfold TXT
  rw [hc 40 (by decide) (by decide)]
  exact a5
/-- the run has ended: k, what main gave -/
def RFi (v0 : Mem) (z : Nat) (k res : Int) (ρ : Rho) (v : Mem) : Prop := (∃ J, RHb v z J ∧ blk J = rH ρ) ∧ (v 38 66 = k ∧ v 38 67 = res) ∧ (v 38 68 = (rN ρ : Nat) ∧ v 38 69 = (rK ρ : Nat) ∧ v 38 70 = (rM ρ : Nat) ∧ v 38 72 = ((rT ρ).length : Nat)) ∧ ((rT ρ).length ≤ 2000 ∧ ∀ i, i < (rT ρ).length → v 79 i = (rT ρ).getD i 0) ∧ RBy v ρ ∧ RFx v0 v
theorem sweep0_rr {t : Int} {d : Nat} {Q : Int → Mem → Prop} {v : Mem} {n z : Nat} {J : Jb} {FS : List Fr} (a1 : RHb v z J) (a3 : RSt v n J (tmps FS)) (a4 : RLo v n J 0 FS) (h57 : v 38 57 = ((FS.length : Nat) : Int)) (h12 : FS.length ≤ 12) (hq : ∀ J' v', RHb v' z J' → blk J' = gc (flat FS) z0 (blk J) → SWf v v' → Q 0 v') : RR t d 232 [(2, 38)] v Q := by
  obtain ⟨hg, g1, g2, g3⟩ := a1.2.1
  refine w_232 (sw1 g1 g2 (fun w1 e1 m1 => ?_) hg 0 v (by omega) (fun _ _ => rfl) (fun i hi => absurd hi (Nat.not_lt_zero _)))
  refine sw2 a1 a3 (fun w2 e2 m2 => ?_) (tmps FS).length 0 w1 (by omega) e1 (fun j hj => by rw [m1 j.1 (g3 j hj), List.take_zero]; rfl)
  refine sw4 (n := n) (F := FS.length) a1 h57 (by omega) FS 0 _ w2 (by omega) a4 e2 m2 (fun w3 e3 m3 => ?_)
  have m3 : MKr w3 J (flat FS) := fun j hj => by
    have e : cnt j.2.1 (rws (tmps FS) ++ locs FS) = cnt j.2.1 (flat FS) := by rw [cnt_app, cnt_flat]
    have := m3 j hj
    rw [e] at this
    exact this
  have h3 : RHb w3 z J := a1.same (by rw [e3 38 (by decide)]) (by rw [e3 38 (by decide)]) (by rw [e3 38 (by decide)]) (fun c hc => e3 c (by omega))
  refine sw6 g2 hg 0 J w3 (by omega) (by rw [e3 38 (by decide)]; exact g1) h3 m3 (fun j _ hlt => absurd hlt (Nat.not_lt_zero _)) (fun J' w4 h4 b4 k4 f4 => ?_)
  obtain ⟨hg', q1, -, -⟩ := h4.2.1
  refine sw7 hg' w4 q1 h4 (fun w5 h5 f5 => hq J' w5 h5 b4 ?_)
  exact SWf.trans ⟨fun c c1 c2 c3 c4 => e3 c c3, fun k k1 k2 => by rw [e3 38 (by decide)]⟩ (f4.trans f5)
/-- it ended at once -/
theorem RE.fin {t : Int} {d : Nat} {Q : Int → Mem → Prop} {v0 v : Mem} {n z dp : Nat} {e : Int × Rho} (h : RE v0 n z dp e v) (hq : ∀ v', RFi v0 z e.1 0 e.2 v' → Q 0 v') : RR t d 232 [(2, 38)] v Q := by
  obtain ⟨J, FS, g⟩ := h
  refine sweep_rr g (fun J' v' h' hb _ => hq v' ?_)
  obtain ⟨a1, -, -, -, a5, a6, a7⟩ := h'
  exact ⟨⟨J', a1, hb⟩, ⟨a5.2.1.1, a5.2.1.2.1⟩, a5.2.2.1, ⟨a5.2.2.2.1.2.2, a5.2.2.2.2⟩, a6, a7⟩
/-- main gave r -/
theorem RZ.fin {t : Int} {d : Nat} {Q : Int → Mem → Prop} {v0 v : Mem} {n z dp : Nat} {J : Jb} {r : Rw} {ρ : Rho} (h : RZ v0 n z dp J [] [(r, 0)] ρ v) (hq : ∀ v', RFi v0 z 0 r.2.1 ρ v' → Q 0 v') : ((0 ≤ (w32 ((v 38 52) - 1)) ∧ (w32 ((v 38 52) - 1)) < 1500) ∧ RR t d 232 [(2, 38)] (up (up v 38 52 (w32 ((v 38 52) - 1))) 38 67 (v 68 (Int.toNat (w32 ((v 38 52) - 1))))) Q) := by
  obtain ⟨a1, a2, a3, a4, a5, a6, a7⟩ := h
  have e52 : v 38 52 = 1 := a3.1
  have er := (a3.2.2 0 (by show 0 < 1; decide))
  have er : rrw J n r 0 (v 66 0) (v 67 0) (v 68 0) := er
  obtain ⟨r1, -, -, -⟩ := er.i0
  rw [e52, show w32 ((1 : Int) - 1) = 0 from by decide]
  refine ⟨⟨by decide, by decide⟩, ?_⟩
  have e67 : v 68 (Int.toNat 0) = r.2.1 := by rw [r1]; rfl
  rw [e67]
  generalize hv : up (up v 38 52 0) 38 67 r.2.1 = w
  have c1 : ∀ c, c ≠ 38 → w c = v c := fun c q => by rw [← hv, up_ne q, up_ne q]
  have c2 : ∀ k, k ≠ 52 → k ≠ 67 → w 38 k = v 38 k := fun k q1 q2 => by rw [← hv, up_nk q2, up_nk q1]
  have b1 : RHb w z J := a1.same (c2 _ (by decide) (by decide)) (c2 _ (by decide) (by decide)) (c2 _ (by decide) (by decide)) (fun c hc => c1 c (by omega))
  refine sweep0_rr (n := n) (FS := []) b1 ⟨?_, Nat.zero_le _, fun i hi => absurd hi (Nat.not_lt_zero _)⟩ trivial ?_ (Nat.zero_le _) (fun J' v' h' hb hf => hq v' ?_)
  · rw [← hv, up_nk (by decide), up_k]; rfl
  · rw [c2 57 (by decide) (by decide)]; exact a5.1.1
  · have hk : ∀ k, k ≠ 73 → k ≠ 74 → k ≠ 52 → k ≠ 67 → v' 38 k = v 38 k := fun k q1 q2 q3 q4 => by rw [hf.2 k q1 q2, c2 k q3 q4]
    have hc : ∀ c, c ≠ 38 → c ≠ 73 → c ≠ 76 → c ≠ 78 → v' c = v c := fun c q1 q2 q3 q4 => by rw [hf.1 c q1 q2 q3 q4, c1 c q1]
    obtain ⟨n1, n2, ⟨n3, n4, n5, n6⟩, n7, n8⟩ := a5
    refine ⟨⟨J', h', ?_⟩, ⟨?_, ?_⟩, ⟨?_, ?_, ?_, ?_⟩, ⟨n7.2.2, fun i hi => ?_⟩, fun b hb' j hj => ?_, a7.trans (fun c c1 c2 => hc c c2 (by omega) (by omega) (by omega)) (fun k hk' => hk k (by omega) (by omega) (by omega) (by omega))⟩
    · rw [hb, a2]
      unfold gc
      refine List.filter_congr (fun b _ => ?_)
      have e0 : cnt b.1 (flat [] ++ rws [(r, 0)]) = 0 := by
        show (if r.1 = ((b.1 : Nat) : Int) then 1 else 0) + 0 = 0
        rw [r1]
        show (if (-1 : Int) = ((b.1 : Nat) : Int) then 1 else 0) + 0 = 0
        rw [if_neg (by omega)]
      rw [e0]
      rfl
    · rw [hk 66 (by decide) (by decide) (by decide) (by decide)]; exact n2.1
    · rw [hf.2 67 (by decide) (by decide), ← hv, up_k]
    · rw [hk 68 (by decide) (by decide) (by decide) (by decide)]; exact n3
    · rw [hk 69 (by decide) (by decide) (by decide) (by decide)]; exact n4
    · rw [hk 70 (by decide) (by decide) (by decide) (by decide)]; exact n5
    · rw [hk 72 (by decide) (by decide) (by decide) (by decide)]; exact n6
    · rw [hc 79 (by decide) (by decide) (by decide) (by decide)]; exact n8 i hi
    · rw [hc 77 (by decide) (by decide) (by decide) (by decide)]; exact a6 b hb' j hj
theorem ini_lp {t : Int} {d : Nat} {v : Mem} {Q : Int → Mem → Prop} (hq : ∀ w, (∀ c, c ≠ 78 → w c = v c) → (∀ j, j < 4000 → w 78 j = -1) → LL t d 256 97 [(2, 38), (3, 0), (3, 0), (0, 0)] [] w Q) : ∀ (m i : Nat) (w : Mem), i + m = 4000 → (∀ c, c ≠ 78 → w c = v c) → (∀ j, j < i → w 78 j = -1) → LL t d 256 75 [(2, 38), (3, 0), (3, 0), (0, (i : Int))] [] w Q := by
  intro m
  induction m with
  | zero =>
    intro i w hi h1 h2
    exact w_256_75 ⟨fun c => absurd c (by omega), fun _ => hq w h1 (fun j hj => h2 j (by omega))⟩
  | succ m ih =>
    intro i w hi h1 h2
    refine w_256_75 ⟨fun _ => ⟨⟨by omega, by omega⟩, ?_⟩, fun c => absurd (by omega) c⟩
    rw [wS (k := i) (m := 4000) (by omega) (by decide), Int.toNat_natCast]
    refine ih (i + 1) _ (by omega) (fun c hc => by rw [up_ne hc]; exact h1 c hc) (fun j hj => ?_)
    by_cases e : j = i
    · subst e; rw [up_k]
    · rw [up_nk e]; exact h2 j (by omega)
theorem ini_lp2 {t : Int} {d : Nat} {v : Mem} {Q : Int → Mem → Prop} (hq : ∀ w, (∀ c, c ≠ 73 → w c = v c) → (∀ j, j < 2001 → w 73 j = -1) → LL t (d + 1) 256 97 [(2, 38), (3, 0), (3, 0), (0, ((2001 : Nat) : Int))] [] w Q) : ∀ (m i : Nat) (w : Mem), i + m = 2001 → (∀ c, c ≠ 73 → w c = v c) → (∀ j, j < i → w 73 j = -1) → LL t (d + 1) 256 97 [(2, 38), (3, 0), (3, 0), (0, (i : Int))] [] w Q := by
  intro m
  induction m with
  | zero =>
    intro i w hi h1 h2
    have hi : i = 2001 := by omega
    subst hi
    exact hq w h1 h2
  | succ m ih =>
    intro i w hi h1 h2
    refine w_256_97 ⟨fun _ => ⟨⟨by omega, by omega⟩, ?_⟩, fun c => absurd (by omega) c⟩
    rw [wS (k := i) (m := 2001) (by omega) (by decide), Int.toNat_natCast]
    refine ih (i + 1) _ (by omega) (fun c hc => by rw [up_ne hc]; exact h1 c hc) (fun j hj => ?_)
    by_cases e : j = i
    · subst e; rw [up_k]
    · rw [up_nk e]; exact h2 j (by omega)
/-- THE REFERENCE RUNS AS cal SAYS -/
theorem run_rr {t : Int} {d : Nat} {v : Mem} {u : Nat → Int} {n z dp : Nat} {l : List FnT} {tx : Nat → Int} {ρ0 : Rho} {Q : Int → Mem → Prop} (hR : RLD v u n l) (hg : GOOD u n l) (htx : ∀ a, a < n → v 40 a = tx a) (h0 : rH ρ0 = [] ∧ rT ρ0 = [] ∧ rN ρ0 = 0 ∧ rK ρ0 = 0 ∧ rM ρ0 = 0) (h4 : ¬ v 38 4 = 0) (h5 : v 38 5 = 0) (hz : z ≤ 4000) (h1 : 1 ≤ dp) (h2 : dp ≤ 12) (hd : 1470 ≤ d)
    (hq : match cal u n (l.map (fnOf u n)) tx z l dp (fno (l.map (fnOf u n)) 660205) [] ρ0 with
      | .error e => ∀ v', RFi (up (up v 38 7 0) 38 48 1) z e.1 0 e.2 v' → Q e.1 v'
      | .ok q => ∀ v', RFi (up (up v 38 7 0) 38 48 1) z 0 (g2 q.1 0).2.1 q.2 v' → Q 0 v') : RR t d 256 [(2, 38), (0, (z : Int)), (0, (dp : Int))] v Q := by
  obtain ⟨d', rfl⟩ : ∃ d', d = d' + 1 := ⟨d - 1, by omega⟩
  obtain ⟨hn, hp, hnf, hm, htf⟩ := hg
  have hf : fsok u n l := fun q hq => ⟨PPr_wf _ _ _ _ l hp q hq, PPr_bd _ _ _ _ l hp q hq⟩
  have hwf : ∀ q ∈ l, wfF (kd u n) q := fun q hq => (hf q hq).1
  have hty : ∀ q ∈ l, tyF q := PPr_ty _ _ _ _ l hp
  have hu : u = uB (v 40) n := hR.2.2.2.2.2.2.symm
  have hT := hR.2.2.2.2.2.1
  obtain ⟨ci, e1, e2, e3⟩ := fno_at hm.1
  rw [List.length_map] at e2
  have hl2 : (l.getD ci dfF).2.1 = [] := by
    have := e3.symm.trans hm.2.1
    rw [getD_mp (d := dfF) l ci e2] at this
    exact List.map_eq_nil_iff.mp this
  have hrt : (l.getD ci dfF).2.2.1 = 0 := by
    have := hm.2.2
    unfold fnT at this
    rw [e1, if_neg (by omega), Int.toNat_natCast, getD_mp (d := dfF) l ci e2] at this
    exact this
  obtain ⟨k, rfl⟩ : ∃ k, dp = k + 1 := ⟨dp - 1, by omega⟩
  refine w_256 ⟨fun c => absurd c h4, fun _ => ⟨fun _ => ⟨fun c => absurd c (by omega), fun _ => ⟨fun c => absurd c (by omega), fun _ => ⟨fun c => absurd c (by omega), fun _ => ⟨fun c => absurd c (by omega), fun _ => ⟨fun _ => ⟨Or.inr rfl, ?_⟩, fun c => absurd rfl c⟩⟩⟩⟩⟩, fun c => absurd h5 c⟩⟩
  generalize hv1 : up (up (up (up v 38 7 0) 38 48 1) 38 65 (z : Int)) 38 58 ((k + 1 : Nat) : Int) = v1
  refine ini_lp (v := v1) (fun w hw w78 => ini_lp2 (v := w) (fun w2 hw2 w73 => ?_) 2001 0 w (by omega) (fun _ _ => rfl) (fun j hj => absurd hj (Nat.not_lt_zero _))) 4000 0 v1 (by omega) (fun _ _ => rfl) (fun j hj => absurd hj (Nat.not_lt_zero _))
  refine w_256_97 ⟨fun c => absurd c (by decide), fun _ => ⟨Or.inl rfl, ?_⟩⟩
  generalize hv2 : up (up (up (up (up (up (up (up (up (up (up w2 38 52 0) 38 73 0) 38 74 0) 38 57 0) 38 68 0) 38 69 0) 38 70 0) 38 72 0) 38 66 0) 38 67 0) 38 78 0 = v2
  generalize hv0 : up (up v 38 7 0) 38 48 1 = v0 at hq
  have d0 : ∀ c, c ≠ 38 → v0 c = v c := fun c q => by rw [← hv0, up_ne q, up_ne q]
  have d1 : ∀ k, k ≠ 7 → k ≠ 48 → v0 38 k = v 38 k := fun k q1 q2 => by rw [← hv0, up_nk q2, up_nk q1]
  have c38 : ∀ k, k ≠ 52 → k ≠ 57 → k ≠ 58 → k ≠ 65 → ¬ (66 ≤ k ∧ k ≤ 70) → ¬ (72 ≤ k ∧ k ≤ 74) → k ≠ 78 → v2 38 k = v0 38 k := fun k q1 q2 q3 q4 q5 q6 q7 => by
    rw [← hv2, up_nk (by omega), up_nk (by omega), up_nk (by omega), up_nk (by omega), up_nk (by omega), up_nk (by omega), up_nk (by omega), up_nk (by omega), up_nk (by omega), up_nk (by omega), up_nk (by omega), hw2 38 (by decide), hw 38 (by decide), ← hv1, up_nk (by omega), up_nk (by omega), hv0]
  have cne : ∀ c, c ≠ 38 → c ≠ 73 → c ≠ 78 → v2 c = v0 c := fun c q1 q2 q3 => by
    rw [← hv2, up_ne q1, up_ne q1, up_ne q1, up_ne q1, up_ne q1, up_ne q1, up_ne q1, up_ne q1, up_ne q1, up_ne q1, up_ne q1, hw2 c q2, hw c q3, ← hv1, up_ne q1, up_ne q1, hv0]
  have e73 : v2 73 = w2 73 := by
    rw [← hv2, up_ne (by decide), up_ne (by decide), up_ne (by decide), up_ne (by decide), up_ne (by decide), up_ne (by decide), up_ne (by decide), up_ne (by decide), up_ne (by decide), up_ne (by decide), up_ne (by decide)]
  have e78 : v2 78 = w 78 := by
    rw [← hv2, up_ne (by decide), up_ne (by decide), up_ne (by decide), up_ne (by decide), up_ne (by decide), up_ne (by decide), up_ne (by decide), up_ne (by decide), up_ne (by decide), up_ne (by decide), up_ne (by decide), hw2 78 (by decide)]
  have e65 : v2 38 65 = (z : Int) := by
    rw [← hv2, up_nk (by decide), up_nk (by decide), up_nk (by decide), up_nk (by decide), up_nk (by decide), up_nk (by decide), up_nk (by decide), up_nk (by decide), up_nk (by decide), up_nk (by decide), up_nk (by decide), hw2 38 (by decide), hw 38 (by decide), ← hv1, up_nk (by decide), up_k]
  have e58 : v2 38 58 = ((k + 1 : Nat) : Int) := by
    rw [← hv2, up_nk (by decide), up_nk (by decide), up_nk (by decide), up_nk (by decide), up_nk (by decide), up_nk (by decide), up_nk (by decide), up_nk (by decide), up_nk (by decide), up_nk (by decide), up_nk (by decide), hw2 38 (by decide), hw 38 (by decide), ← hv1, up_k]
  have hR0 : RLD v0 u n l := hR.same hwf (fun c c1 c2 => d0 c (by omega)) (d1 _ (by decide) (by decide)) (d1 _ (by decide) (by decide)) (d1 _ (by decide) (by decide))
  have htx0 : ∀ a, a < n → v0 40 a = tx a ∧ -128 ≤ tx a ∧ tx a < 128 := fun a ha => by
    have q := hT.2 a ha
    rw [← htx a ha, d0 40 (by decide)]
    exact ⟨rfl, q⟩
  obtain ⟨o1, o2, o3, o4, o5⟩ := h0
  have hx : RX v0 n z (k + 1) 0 [] [] ρ0 v2 := by
    refine ⟨⟨⟨Nat.zero_le _, e65, hz, ?_⟩, ⟨0, ?_, by decide, fun j hj => absurd hj (List.not_mem_nil)⟩, fun j hj => absurd hj (List.not_mem_nil), fun q hq _ => ?_, fun j hj => absurd hj (List.not_mem_nil), fun p hp _ => ?_⟩, o1, ⟨?_, Nat.zero_le _, fun i hi => absurd hi (Nat.not_lt_zero _)⟩, trivial, ⟨⟨?_, e58, Nat.zero_le _, h2⟩, ⟨?_, ?_, ?_⟩, ⟨?_, ?_, ?_, ?_⟩, ⟨?_, ?_, ?_⟩, fun i hi => ?_⟩, fun b hb => ?_, ⟨fun c c1 c2 => cne c c2 (by omega) (by omega), fun k hk => c38 k (by omega) (by omega) (by omega) (by omega) (by omega) (by omega) (by omega)⟩⟩
    · rw [← hv2]; rfl
    · rw [← hv2]; rfl
    · rw [e73]; exact w73 q hq
    · rw [e78]; exact w78 p hp
    · rw [← hv2]; rfl
    · rw [← hv2]; rfl
    · rw [← hv2]; rfl
    · rw [← hv2]; rfl
    · rw [← hv2]; rfl
    · rw [o3, ← hv2]; rfl
    · rw [o4, ← hv2]; rfl
    · rw [o5, ← hv2]; rfl
    · rw [o2, ← hv2]; rfl
    · rw [o3]; decide
    · rw [o5]; decide
    · rw [o2]; decide
    · rw [o2] at hi; exact absurd hi (Nat.not_lt_zero _)
    · rw [o1] at hb; exact absurd hb (List.not_mem_nil)
  have e46 : w2 38 46 = (ci : Int) := by
    rw [hw2 38 (by decide), hw 38 (by decide), ← hv1, up_nk (by decide), up_nk (by decide), hv0, d1 46 (by decide) (by decide), hR.2.2.2.1, e1]
  rw [e46]
  have hcl : ∀ ci S ρ, rN ρ ≤ 20000 → okE 1 0 ρ (cal u n (l.map (fnOf u n)) tx z l k ci S ρ) := fun ci S ρ h => cal_ok hf k ci S ρ h
  have hC := HCr_all (t := t) (v0 := v0) (z := z) (dp := k + 1) hn hu htx0 hR0 hf hty hnf htf k 0 (by omega)
  have hE : ∀ e, wfE (kd u n) false e → HRe t v0 u n z (k + 1) (l.map (fnOf u n)) tx (cal u n (l.map (fnOf u n)) tx z l k) (([] : List Fr).length) (8 + 121 * k + 2) e := fun e he => HRe_all hn hu htx0 (FTy_of hR0 hty) (P6_of hf) hcl hC (by omega) _ e (Nat.lt_succ_self _) he
  refine ent_rr (FS := []) (FS' := []) (T := []) (D := 8 + 121 * k + 2) hn htx0 hR0 hf hty hnf htf hcl hE (by omega) e2 (fun ρ v g => g.toZ0) (by rw [hl2]; rfl) hx (by rw [o4, o3]; decide) (Nat.zero_le _) (by show 0 < k + 1; omega) (by omega) ?_
  rw [e1, cal_succ, Int.toNat_natCast, hl2] at hq
  rw [hrt, hl2]
  have hq : match (if rN ρ0 = 20000 then (.error (4, ρ0) : XE) else fnE (flat []) (evK u n (l.map (fnOf u n)) tx z (cal u n (l.map (fnOf u n)) tx z l k) (flat []).length (scP u n []) (l.getD ci dfF).2.2.2 ((flat [] ++ rws []) ++ zr (slF u n (l.map (fnOf u n)) (l.getD ci dfF) - ([] : List (Nat × Int)).length)) (wN ρ0 (rN ρ0 + 1)))) with
      | .error e => ∀ v', RFi v0 z e.1 0 e.2 v' → Q e.1 v'
      | .ok q => ∀ v', RFi v0 z 0 (g2 q.1 0).2.1 q.2 v' → Q 0 v' := hq
  generalize (if rN ρ0 = 20000 then (.error (4, ρ0) : XE) else fnE (flat []) (evK u n (l.map (fnOf u n)) tx z (cal u n (l.map (fnOf u n)) tx z l k) (flat []).length (scP u n []) (l.getD ci dfF).2.2.2 ((flat [] ++ rws []) ++ zr (slF u n (l.map (fnOf u n)) (l.getD ci dfF) - ([] : List (Nat × Int)).length)) (wN ρ0 (rN ρ0 + 1)))) = r at hq ⊢
  match r, hq with
  | .error e, hq =>
    intro v' g
    refine ⟨fun _ => g.fin (fun v3 h3 => ?_), fun c => absurd rfl c⟩
    rw [h3.2.1.1]
    exact hq v3 h3
  | .ok q, hq =>
    intro r1 J' v' eq g
    refine ⟨fun c => absurd c (by decide), fun _ => g.fin (fun v3 h3 => ?_)⟩
    rw [h3.2.1.1]
    refine hq v3 ?_
    rw [eq]
    exact h3
