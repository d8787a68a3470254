/-! The class's machine: what stands in it, act by act. -/
abbrev Rho : Type := Hp × (Nat → Int) × List Int × Nat × Nat × Nat
/-- blocks, bytes of the heap, bytes told, STEPS, blocks made, the most places taken -/
abbrev rH (ρ : Rho) : Hp := ρ.1
abbrev rB (ρ : Rho) : Nat → Int := ρ.2.1
abbrev rT (ρ : Rho) : List Int := ρ.2.2.1
abbrev rN (ρ : Rho) : Nat := ρ.2.2.2.1
abbrev rK (ρ : Rho) : Nat := ρ.2.2.2.2.1
abbrev rM (ρ : Rho) : Nat := ρ.2.2.2.2.2
abbrev wH (ρ : Rho) (H : Hp) : Rho := (H, ρ.2)
abbrev wN (ρ : Rho) (N : Nat) : Rho := (ρ.1, ρ.2.1, ρ.2.2.1, N, ρ.2.2.2.2)
/-- a row is an int, an empty text, bytes of the text, or bytes of a block -/
def rok (n : Nat) (H : Hp) (r : Rw) : Prop := (∃ a : Int, r = (-1, a, 0) ∧ -2147483648 ≤ a ∧ a < 2147483648) ∨ (∃ s c : Nat, r = (-1, (s : Int), (c : Int)) ∧ 1 ≤ c ∧ s + c ≤ n) ∨ ∃ b ∈ H, ∃ o c : Nat, r = (((b.1 : Nat) : Int), ((3000 + b.1 + o : Nat) : Int), (c : Int)) ∧ 1 ≤ c ∧ o + c + 1 ≤ b.2.1
def CMs (v0 v : Mem) : Prop := ∀ c, c ≠ 14 → (c < 15 ∨ 21 < c) → (c < 31 ∨ 37 < c) → v c = v0 c
def CBy (v0 : Mem) (hb : Nat → Int) (tl : List Int) (v : Mem) : Prop := (∀ a, a < 3000 → v 14 a = v0 14 a) ∧ (∀ p, p < 4000 → v 14 (3000 + p) = hb p) ∧ ∀ i, i < tl.length → v 14 (7011 + i) = tl.getD i 0
def CRg (v0 : Mem) (dp pc : Nat) (FB : List (Nat × Nat)) (hb : Nat → Int) (tl : List Int) (N : Nat) (v : Mem) : Prop := (v 31 7 = (FB.length : Nat) ∧ v 31 8 = (dp : Nat) ∧ v 31 9 = (pc : Nat) ∧ v 31 10 = (N : Nat) ∧ v 31 11 = (tl.length : Nat) ∧ v 31 12 = 0 ∧ v 31 13 = -1) ∧ (N ≤ 20000 ∧ tl.length ≤ 2000 ∧ FB.length ≤ 12) ∧ (∀ i, i < FB.length → v 37 i = ((FB.getD i (0, 0)).1 : Nat) ∧ v 36 i = ((FB.getD i (0, 0)).2 : Nat)) ∧ CBy v0 hb tl v ∧ CMs v0 v
/-- the machine stands before act pc, rows S, frames FB (base, way back) -/
def CM (v0 : Mem) (n z dp pc : Nat) (FB : List (Nat × Nat)) (S : List Rw) (ρ : Rho) (v : Mem) : Prop := VH v z (rH ρ) (rK ρ) (rM ρ) S z0 ∧ LV S z0 (rH ρ) ∧ (∀ r ∈ S, rok n (rH ρ) r) ∧ CRg v0 dp pc FB (rB ρ) (rT ρ) (rN ρ) v
/-- the run has ended -/
def CE (v0 : Mem) (z : Nat) (k res : Int) (ρ : Rho) (v : Mem) : Prop := (∃ S, VH v z (rH ρ) (rK ρ) (rM ρ) S z0 ∧ LV S z0 (rH ρ)) ∧ (v 31 10 = (rN ρ : Nat) ∧ v 31 11 = ((rT ρ).length : Nat) ∧ v 31 12 = res ∧ v 31 13 = k) ∧ (rT ρ).length ≤ 2000 ∧ CBy v0 (rB ρ) (rT ρ) v ∧ CMs v0 v
def actAt (v0 : Mem) (pc : Nat) (a f s : Int) : Prop := (∃ N : Nat, v0 8 3 = N ∧ N ≤ 3100 ∧ pc < N) ∧ v0 9 pc = a ∧ v0 10 pc = f ∧ v0 11 pc = s
theorem HC.cells {v v' : Mem} {z : Nat} {H : Hp} {k mo : Nat} {rc : Nat → Nat} (h : HC v z H k mo rc) (e : ∀ c, 15 ≤ c → c ≤ 20 → v' c = v c) : HC v' z H k mo rc := by
  obtain ⟨⟨a1, a2, a3⟩, a4, a5, a6⟩ := h
  exact ⟨⟨a1, a2, CHN_same (fun c hc => e c (by omega) (by omega)) H 4000 a3⟩, by rw [e 15 (by omega) (by omega)]; exact a4, fun p hp => by rw [e 19 (by omega) (by omega)]; exact a5 p hp, fun p hp hn => by rw [e 18 (by omega) (by omega)]; exact a6 p hp hn⟩
theorem VH.cells {v v' : Mem} {z : Nat} {H : Hp} {k mo : Nat} {S : List Rw} {ex : Nat → Nat} (h : VH v z H k mo S ex) (e : ∀ c, 15 ≤ c → c ≤ 20 → v' c = v c) (e2 : ∀ c, 32 ≤ c → c ≤ 35 → v' c = v c) : VH v' z H k mo S ex := ⟨h.1.same (by rw [e2 32 (by omega) (by omega)]) (fun c hc => e2 c (by omega) (by omega)), h.2.1.cells e, h.2.2⟩
theorem CBy.same {v0 v v' : Mem} {hb : Nat → Int} {tl : List Int} (h : CBy v0 hb tl v) (e : v' 14 = v 14) : CBy v0 hb tl v' := by
  unfold CBy at *
  rw [e]
  exact h
theorem CRg.vf {v0 v v' : Mem} {dp pc N : Nat} {FB : List (Nat × Nat)} {hb : Nat → Int} {tl : List Int} (h : CRg v0 dp pc FB hb tl N v) (f : VF v v') : CRg v0 dp pc FB hb tl N v' := by
  obtain ⟨h1, h2, h3, h4, h5⟩ := h
  have e31 := f.1 31 (by omega) (by omega)
  refine ⟨by rw [e31]; exact h1, h2, fun i hi => by rw [f.1 36 (by omega) (by omega), f.1 37 (by omega) (by omega)]; exact h3 i hi, h4.same (f.1 14 (by omega) (by omega)), fun c c1 c2 c3 => ?_⟩
  rw [f.1 c (by omega) (by omega)]
  exact h5 c c1 c2 c3
theorem CMs.u31 {v0 v : Mem} {k : Nat} {a : Int} (h : CMs v0 v) : CMs v0 (up v 31 k a) := fun c c1 c2 c3 => by rw [up_ne (by omega)]; exact h c c1 c2 c3
theorem CRg.at {v0 v : Mem} {dp pc pc' N : Nat} {FB : List (Nat × Nat)} {hb : Nat → Int} {tl : List Int} (h : CRg v0 dp pc FB hb tl N v) : CRg v0 dp pc' FB hb tl N (up v 31 9 ((pc' : Nat) : Int)) := by
  obtain ⟨⟨a1, a2, a3, a4, a5, a6, a7⟩, h2, h3, h4, h5⟩ := h
  refine ⟨⟨?_, ?_, up_k, ?_, ?_, ?_, ?_⟩, h2, fun i hi => by rw [up_ne (by decide), up_ne (by decide)]; exact h3 i hi, h4.same (up_ne (by decide)), h5.u31⟩
  · rw [up_nk (by decide)]; exact a1
  · rw [up_nk (by decide)]; exact a2
  · rw [up_nk (by decide)]; exact a4
  · rw [up_nk (by decide)]; exact a5
  · rw [up_nk (by decide)]; exact a6
  · rw [up_nk (by decide)]; exact a7
theorem VH.u31 {v : Mem} {z : Nat} {H : Hp} {k mo : Nat} {S : List Rw} {ex : Nat → Nat} {j : Nat} {a : Int} (h : VH v z H k mo S ex) : VH (up v 31 j a) z H k mo S ex := h.cells (fun c c1 c2 => up_ne (by omega)) (fun c c1 c2 => up_ne (by omega))
theorem CM.at {v0 v : Mem} {n z dp pc pc' : Nat} {FB : List (Nat × Nat)} {S : List Rw} {ρ : Rho} (h : CM v0 n z dp pc FB S ρ v) : CM v0 n z dp pc' FB S ρ (up v 31 9 ((pc' : Nat) : Int)) := ⟨h.1.u31, h.2.1, h.2.2.1, h.2.2.2.at⟩
theorem ac_pre {v0 v : Mem} {n z dp pc : Nat} {FB : List (Nat × Nat)} {S : List Rw} {ρ : Rho} {a f s : Int} (hc : CM v0 n z dp pc FB S ρ v) (ha : actAt v0 pc a f s) : f_13 (v 31 9) (up v 31 9 ((pc + 1 : Nat) : Int)) = a ∧ f_14 (v 31 9) v = f ∧ f_15 (v 31 9) v = s ∧ w32 ((v 31 9) + 1) = ((pc + 1 : Nat) : Int) ∧ v 32 4 = ((S.length : Nat) : Int) ∧ CM v0 n z dp (pc + 1) FB S ρ (up v 31 9 ((pc + 1 : Nat) : Int)) := by
  obtain ⟨⟨N, n1, n2, n3⟩, a1, a2, a3⟩ := ha
  have st := hc.2.2.2.2.2.2.2
  have e9 := hc.2.2.2.1.2.2.1
  have c8 := st 8 (by decide) (by omega) (by omega)
  have c9 := st 9 (by decide) (by omega) (by omega)
  have c10 := st 10 (by decide) (by omega) (by omega)
  have c11 := st 11 (by decide) (by omega) (by omega)
  refine ⟨?_, ?_, ?_, ?_, hc.1.1.1, hc.at⟩
  · unfold f_13
    rw [up_ne (by decide), up_ne (by decide), c8, c9, e9, n1, if_neg (by omega), if_pos (by omega), if_pos (by omega), Int.toNat_natCast]
    exact a1
  · unfold f_14
    rw [c8, c10, e9, n1, if_neg (by omega), if_pos (by omega), if_pos (by omega), Int.toNat_natCast]
    exact a2
  · unfold f_15
    rw [c8, c11, e9, n1, if_neg (by omega), if_pos (by omega), if_pos (by omega), Int.toNat_natCast]
    exact a3
  · rw [e9]
    exact wNat (by omega) (by omega)
theorem ac_0 {t : Int} {d : Nat} {v0 v : Mem} {Q : Int → Mem → Prop} {n z dp pc : Nat} {FB : List (Nat × Nat)} {S : List Rw} {ρ : Rho} {f s : Int} (hc : CM v0 n z dp pc FB S ρ v) (ha : actAt v0 pc 0 f s) (h : ∀ v1, CM v0 n z dp (pc + 1) FB S ρ v1 → Q 0 (m_58 1 v1)) : RR t (d + 2) 56 [(2, 31)] v Q := by
  obtain ⟨e1, e2, e3, e4, e5, hv⟩ := ac_pre hc ha
  refine s_56 (d := d) ?_
  rw [e4, e1, e2, e3, e5]
  exact ⟨fun _ => h _ hv, fun c => absurd rfl c⟩
theorem ac_1 {t : Int} {d : Nat} {v0 v : Mem} {Q : Int → Mem → Prop} {n z dp pc : Nat} {FB : List (Nat × Nat)} {S : List Rw} {ρ : Rho} {f s : Int} (hc : CM v0 n z dp pc FB S ρ v) (ha : actAt v0 pc 1 f s) (h : ∀ v1, CM v0 n z dp (pc + 1) FB S ρ v1 → (RR t (d + 1) 150 [(2, 32)] v1 (fun _ v' => Q 0 v'))) : RR t (d + 2) 56 [(2, 31)] v Q := by
  obtain ⟨e1, e2, e3, e4, e5, hv⟩ := ac_pre hc ha
  refine s_56 (d := d) ?_
  rw [e4, e1, e2, e3, e5]
  exact ⟨fun c => absurd c (by decide), fun _ => ⟨fun _ => h _ hv, fun c => absurd rfl c⟩⟩
theorem ac_2 {t : Int} {d : Nat} {v0 v : Mem} {Q : Int → Mem → Prop} {n z dp pc : Nat} {FB : List (Nat × Nat)} {S : List Rw} {ρ : Rho} {f s : Int} (hc : CM v0 n z dp pc FB S ρ v) (ha : actAt v0 pc 2 f s) (h : ∀ v1, CM v0 n z dp (pc + 1) FB S ρ v1 → Q 0 (up v1 31 9 f)) : RR t (d + 2) 56 [(2, 31)] v Q := by
  obtain ⟨e1, e2, e3, e4, e5, hv⟩ := ac_pre hc ha
  refine s_56 (d := d) ?_
  rw [e4, e1, e2, e3, e5]
  exact ⟨fun c => absurd c (by decide), fun _ => ⟨fun c => absurd c (by decide), fun _ => ⟨fun _ => h _ hv, fun c => absurd rfl c⟩⟩⟩
theorem ac_3 {t : Int} {d : Nat} {v0 v : Mem} {Q : Int → Mem → Prop} {n z dp pc : Nat} {FB : List (Nat × Nat)} {S : List Rw} {ρ : Rho} {f s : Int} (hc : CM v0 n z dp pc FB S ρ v) (ha : actAt v0 pc 3 f s) (h : ∀ v1, CM v0 n z dp (pc + 1) FB S ρ v1 → (RR t (d + 1) 59 [(2, 31), (0, f)] v1 (fun _ v' => Q 0 v'))) : RR t (d + 2) 56 [(2, 31)] v Q := by
  obtain ⟨e1, e2, e3, e4, e5, hv⟩ := ac_pre hc ha
  refine s_56 (d := d) ?_
  rw [e4, e1, e2, e3, e5]
  exact ⟨fun c => absurd c (by decide), fun _ => ⟨fun c => absurd c (by decide), fun _ => ⟨fun c => absurd c (by decide), fun _ => ⟨fun _ => h _ hv, fun c => absurd rfl c⟩⟩⟩⟩
theorem ac_4 {t : Int} {d : Nat} {v0 v : Mem} {Q : Int → Mem → Prop} {n z dp pc : Nat} {FB : List (Nat × Nat)} {S : List Rw} {ρ : Rho} {f s : Int} (hc : CM v0 n z dp pc FB S ρ v) (ha : actAt v0 pc 4 f s) (h : ∀ v1, CM v0 n z dp (pc + 1) FB S ρ v1 → (RR t (d + 1) 60 [(2, 31), (0, f), (0, s)] v1 (fun _ v' => Q 0 v'))) : RR t (d + 2) 56 [(2, 31)] v Q := by
  obtain ⟨e1, e2, e3, e4, e5, hv⟩ := ac_pre hc ha
  refine s_56 (d := d) ?_
  rw [e4, e1, e2, e3, e5]
  exact ⟨fun c => absurd c (by decide), fun _ => ⟨fun c => absurd c (by decide), fun _ => ⟨fun c => absurd c (by decide), fun _ => ⟨fun c => absurd c (by decide), fun _ => ⟨fun _ => h _ hv, fun c => absurd rfl c⟩⟩⟩⟩⟩
theorem ac_5 {t : Int} {d : Nat} {v0 v : Mem} {Q : Int → Mem → Prop} {n z dp pc : Nat} {FB : List (Nat × Nat)} {S : List Rw} {ρ : Rho} {f s : Int} (hc : CM v0 n z dp pc FB S ρ v) (ha : actAt v0 pc 5 f s) (h : ∀ v1, CM v0 n z dp (pc + 1) FB S ρ v1 → (RR t (d + 1) 61 [(2, 31), (0, f)] v1 (fun _ v' => Q 0 v'))) : RR t (d + 2) 56 [(2, 31)] v Q := by
  obtain ⟨e1, e2, e3, e4, e5, hv⟩ := ac_pre hc ha
  refine s_56 (d := d) ?_
  rw [e4, e1, e2, e3, e5]
  exact ⟨fun c => absurd c (by decide), fun _ => ⟨fun c => absurd c (by decide), fun _ => ⟨fun c => absurd c (by decide), fun _ => ⟨fun c => absurd c (by decide), fun _ => ⟨fun c => absurd c (by decide), fun _ => ⟨fun _ => h _ hv, fun c => absurd rfl c⟩⟩⟩⟩⟩⟩
theorem ac_6 {t : Int} {d : Nat} {v0 v : Mem} {Q : Int → Mem → Prop} {n z dp pc : Nat} {FB : List (Nat × Nat)} {S : List Rw} {ρ : Rho} {f s : Int} (hc : CM v0 n z dp pc FB S ρ v) (ha : actAt v0 pc 6 f s) (h : ∀ v1, CM v0 n z dp (pc + 1) FB S ρ v1 → (RR t (d + 1) 62 [(2, 31)] v1 (fun _ v' => Q 0 v'))) : RR t (d + 2) 56 [(2, 31)] v Q := by
  obtain ⟨e1, e2, e3, e4, e5, hv⟩ := ac_pre hc ha
  refine s_56 (d := d) ?_
  rw [e4, e1, e2, e3, e5]
  exact ⟨fun c => absurd c (by decide), fun _ => ⟨fun c => absurd c (by decide), fun _ => ⟨fun c => absurd c (by decide), fun _ => ⟨fun c => absurd c (by decide), fun _ => ⟨fun c => absurd c (by decide), fun _ => ⟨fun c => absurd c (by decide), fun _ => ⟨fun _ => h _ hv, fun c => absurd rfl c⟩⟩⟩⟩⟩⟩⟩
theorem ac_7 {t : Int} {d : Nat} {v0 v : Mem} {Q : Int → Mem → Prop} {n z dp pc : Nat} {FB : List (Nat × Nat)} {S : List Rw} {ρ : Rho} {f s : Int} (hc : CM v0 n z dp pc FB S ρ v) (ha : actAt v0 pc 7 f s) (h : ∀ v1, CM v0 n z dp (pc + 1) FB S ρ v1 → (RR t (d + 1) 142 [(2, 32), (0, (-1)), (0, f), (0, 0)] v1 (fun _ v' => Q 0 v'))) : RR t (d + 2) 56 [(2, 31)] v Q := by
  obtain ⟨e1, e2, e3, e4, e5, hv⟩ := ac_pre hc ha
  refine s_56 (d := d) ?_
  rw [e4, e1, e2, e3, e5]
  exact ⟨fun c => absurd c (by decide), fun _ => ⟨fun c => absurd c (by decide), fun _ => ⟨fun c => absurd c (by decide), fun _ => ⟨fun c => absurd c (by decide), fun _ => ⟨fun c => absurd c (by decide), fun _ => ⟨fun c => absurd c (by decide), fun _ => ⟨fun c => absurd c (by decide), fun _ => ⟨fun _ => h _ hv, fun c => absurd rfl c⟩⟩⟩⟩⟩⟩⟩⟩
theorem ac_8 {t : Int} {d : Nat} {v0 v : Mem} {Q : Int → Mem → Prop} {n z dp pc : Nat} {FB : List (Nat × Nat)} {S : List Rw} {ρ : Rho} {f s : Int} (hc : CM v0 n z dp pc FB S ρ v) (ha : actAt v0 pc 8 f s) (h : ∀ v1, CM v0 n z dp (pc + 1) FB S ρ v1 → (RR t (d + 1) 142 [(2, 32), (0, (-1)), (0, f), (0, s)] v1 (fun _ v' => Q 0 v'))) : RR t (d + 2) 56 [(2, 31)] v Q := by
  obtain ⟨e1, e2, e3, e4, e5, hv⟩ := ac_pre hc ha
  refine s_56 (d := d) ?_
  rw [e4, e1, e2, e3, e5]
  exact ⟨fun c => absurd c (by decide), fun _ => ⟨fun c => absurd c (by decide), fun _ => ⟨fun c => absurd c (by decide), fun _ => ⟨fun c => absurd c (by decide), fun _ => ⟨fun c => absurd c (by decide), fun _ => ⟨fun c => absurd c (by decide), fun _ => ⟨fun c => absurd c (by decide), fun _ => ⟨fun c => absurd c (by decide), fun _ => ⟨fun _ => h _ hv, fun c => absurd rfl c⟩⟩⟩⟩⟩⟩⟩⟩⟩
theorem ac_9 {t : Int} {d : Nat} {v0 v : Mem} {Q : Int → Mem → Prop} {n z dp pc : Nat} {FB : List (Nat × Nat)} {S : List Rw} {ρ : Rho} {f s : Int} (hc : CM v0 n z dp pc FB S ρ v) (ha : actAt v0 pc 9 f s) (h : ∀ v1, CM v0 n z dp (pc + 1) FB S ρ v1 → (RR t (d + 1) 143 [(2, 32), (0, (w32 ((f_57 v1) + f)))] v1 (fun _ v' => Q 0 v'))) : RR t (d + 2) 56 [(2, 31)] v Q := by
  obtain ⟨e1, e2, e3, e4, e5, hv⟩ := ac_pre hc ha
  refine s_56 (d := d) ?_
  rw [e4, e1, e2, e3, e5]
  exact ⟨fun c => absurd c (by decide), fun _ => ⟨fun c => absurd c (by decide), fun _ => ⟨fun c => absurd c (by decide), fun _ => ⟨fun c => absurd c (by decide), fun _ => ⟨fun c => absurd c (by decide), fun _ => ⟨fun c => absurd c (by decide), fun _ => ⟨fun c => absurd c (by decide), fun _ => ⟨fun c => absurd c (by decide), fun _ => ⟨fun c => absurd c (by decide), fun _ => ⟨fun _ => h _ hv, fun c => absurd rfl c⟩⟩⟩⟩⟩⟩⟩⟩⟩⟩
theorem ac_10 {t : Int} {d : Nat} {v0 v : Mem} {Q : Int → Mem → Prop} {n z dp pc : Nat} {FB : List (Nat × Nat)} {S : List Rw} {ρ : Rho} {f s : Int} (hc : CM v0 n z dp pc FB S ρ v) (ha : actAt v0 pc 10 f s) (h : ∀ v1, CM v0 n z dp (pc + 1) FB S ρ v1 → (RR t (d + 1) 147 [(2, 32), (0, (w32 ((f_57 v1) + f)))] v1 (fun _ v' => Q 0 v'))) : RR t (d + 2) 56 [(2, 31)] v Q := by
  obtain ⟨e1, e2, e3, e4, e5, hv⟩ := ac_pre hc ha
  refine s_56 (d := d) ?_
  rw [e4, e1, e2, e3, e5]
  exact ⟨fun c => absurd c (by decide), fun _ => ⟨fun c => absurd c (by decide), fun _ => ⟨fun c => absurd c (by decide), fun _ => ⟨fun c => absurd c (by decide), fun _ => ⟨fun c => absurd c (by decide), fun _ => ⟨fun c => absurd c (by decide), fun _ => ⟨fun c => absurd c (by decide), fun _ => ⟨fun c => absurd c (by decide), fun _ => ⟨fun c => absurd c (by decide), fun _ => ⟨fun c => absurd c (by decide), fun _ => ⟨fun _ => h _ hv, fun c => absurd rfl c⟩⟩⟩⟩⟩⟩⟩⟩⟩⟩⟩
theorem ac_11 {t : Int} {d : Nat} {v0 v : Mem} {Q : Int → Mem → Prop} {n z dp pc : Nat} {FB : List (Nat × Nat)} {S : List Rw} {ρ : Rho} {f s : Int} (hc : CM v0 n z dp pc FB S ρ v) (ha : actAt v0 pc 11 f s) (h : ∀ v1, CM v0 n z dp (pc + 1) FB S ρ v1 → (RR t (d + 1) 149 [(2, 32), (0, (w32 ((f_57 v1) + f))), (0, s)] v1 (fun _ v' => Q 0 v'))) : RR t (d + 2) 56 [(2, 31)] v Q := by
  obtain ⟨e1, e2, e3, e4, e5, hv⟩ := ac_pre hc ha
  refine s_56 (d := d) ?_
  rw [e4, e1, e2, e3, e5]
  exact ⟨fun c => absurd c (by decide), fun _ => ⟨fun c => absurd c (by decide), fun _ => ⟨fun c => absurd c (by decide), fun _ => ⟨fun c => absurd c (by decide), fun _ => ⟨fun c => absurd c (by decide), fun _ => ⟨fun c => absurd c (by decide), fun _ => ⟨fun c => absurd c (by decide), fun _ => ⟨fun c => absurd c (by decide), fun _ => ⟨fun c => absurd c (by decide), fun _ => ⟨fun c => absurd c (by decide), fun _ => ⟨fun c => absurd c (by decide), fun _ => ⟨fun _ => h _ hv, fun c => absurd rfl c⟩⟩⟩⟩⟩⟩⟩⟩⟩⟩⟩⟩
theorem ac_12 {t : Int} {d : Nat} {v0 v : Mem} {Q : Int → Mem → Prop} {n z dp pc : Nat} {FB : List (Nat × Nat)} {S : List Rw} {ρ : Rho} {f s : Int} (hc : CM v0 n z dp pc FB S ρ v) (ha : actAt v0 pc 12 f s) (h : ∀ v1, CM v0 n z dp (pc + 1) FB S ρ v1 → (RR t (d + 1) 144 [(2, 32), (0, 1)] v1 (fun _ v' => Q 0 v'))) : RR t (d + 2) 56 [(2, 31)] v Q := by
  obtain ⟨e1, e2, e3, e4, e5, hv⟩ := ac_pre hc ha
  refine s_56 (d := d) ?_
  rw [e4, e1, e2, e3, e5]
  exact ⟨fun c => absurd c (by decide), fun _ => ⟨fun c => absurd c (by decide), fun _ => ⟨fun c => absurd c (by decide), fun _ => ⟨fun c => absurd c (by decide), fun _ => ⟨fun c => absurd c (by decide), fun _ => ⟨fun c => absurd c (by decide), fun _ => ⟨fun c => absurd c (by decide), fun _ => ⟨fun c => absurd c (by decide), fun _ => ⟨fun c => absurd c (by decide), fun _ => ⟨fun c => absurd c (by decide), fun _ => ⟨fun c => absurd c (by decide), fun _ => ⟨fun c => absurd c (by decide), fun _ => ⟨fun _ => h _ hv, fun c => absurd rfl c⟩⟩⟩⟩⟩⟩⟩⟩⟩⟩⟩⟩⟩
theorem ac_13 {t : Int} {d : Nat} {v0 v : Mem} {Q : Int → Mem → Prop} {n z dp pc : Nat} {FB : List (Nat × Nat)} {S : List Rw} {ρ : Rho} {f s : Int} (hc : CM v0 n z dp pc FB S ρ v) (ha : actAt v0 pc 13 f s) (h : ∀ v1, CM v0 n z dp (pc + 1) FB S ρ v1 → (RR t (d + 1) 63 [(2, 31), (0, f)] v1 (fun _ v' => Q 0 v'))) : RR t (d + 2) 56 [(2, 31)] v Q := by
  obtain ⟨e1, e2, e3, e4, e5, hv⟩ := ac_pre hc ha
  refine s_56 (d := d) ?_
  rw [e4, e1, e2, e3, e5]
  exact ⟨fun c => absurd c (by decide), fun _ => ⟨fun c => absurd c (by decide), fun _ => ⟨fun c => absurd c (by decide), fun _ => ⟨fun c => absurd c (by decide), fun _ => ⟨fun c => absurd c (by decide), fun _ => ⟨fun c => absurd c (by decide), fun _ => ⟨fun c => absurd c (by decide), fun _ => ⟨fun c => absurd c (by decide), fun _ => ⟨fun c => absurd c (by decide), fun _ => ⟨fun c => absurd c (by decide), fun _ => ⟨fun c => absurd c (by decide), fun _ => ⟨fun c => absurd c (by decide), fun _ => ⟨fun c => absurd c (by decide), fun _ => ⟨fun _ => h _ hv, fun c => absurd rfl c⟩⟩⟩⟩⟩⟩⟩⟩⟩⟩⟩⟩⟩⟩
theorem ac_14 {t : Int} {d : Nat} {v0 v : Mem} {Q : Int → Mem → Prop} {n z dp pc : Nat} {FB : List (Nat × Nat)} {S : List Rw} {ρ : Rho} {f s : Int} (hc : CM v0 n z dp pc FB S ρ v) (ha : actAt v0 pc 14 f s) (h : ∀ v1, CM v0 n z dp (pc + 1) FB S ρ v1 → (((f_140 (w32 (((S.length : Nat) : Int) - 1)) v1) = 0 → (RR t (d + 1) 146 [(2, 32), (0, 1), (0, 0)] v1 (fun _ v' => Q 0 v'))) ∧ (¬ (f_140 (w32 (((S.length : Nat) : Int) - 1)) v1) = 0 → (RR t (d + 1) 146 [(2, 32), (0, 1), (0, 1)] v1 (fun _ v' => Q 0 v'))))) : RR t (d + 2) 56 [(2, 31)] v Q := by
  obtain ⟨e1, e2, e3, e4, e5, hv⟩ := ac_pre hc ha
  refine s_56 (d := d) ?_
  rw [e4, e1, e2, e3, e5]
  exact ⟨fun c => absurd c (by decide), fun _ => ⟨fun c => absurd c (by decide), fun _ => ⟨fun c => absurd c (by decide), fun _ => ⟨fun c => absurd c (by decide), fun _ => ⟨fun c => absurd c (by decide), fun _ => ⟨fun c => absurd c (by decide), fun _ => ⟨fun c => absurd c (by decide), fun _ => ⟨fun c => absurd c (by decide), fun _ => ⟨fun c => absurd c (by decide), fun _ => ⟨fun c => absurd c (by decide), fun _ => ⟨fun c => absurd c (by decide), fun _ => ⟨fun c => absurd c (by decide), fun _ => ⟨fun c => absurd c (by decide), fun _ => ⟨fun c => absurd c (by decide), fun _ => ⟨fun _ => h _ hv, fun c => absurd rfl c⟩⟩⟩⟩⟩⟩⟩⟩⟩⟩⟩⟩⟩⟩⟩
theorem ac_15 {t : Int} {d : Nat} {v0 v : Mem} {Q : Int → Mem → Prop} {n z dp pc : Nat} {FB : List (Nat × Nat)} {S : List Rw} {ρ : Rho} {f s : Int} (hc : CM v0 n z dp pc FB S ρ v) (ha : actAt v0 pc 15 f s) (h : ∀ v1, CM v0 n z dp (pc + 1) FB S ρ v1 → (RR t (d + 1) 146 [(2, 32), (0, 1), (0, (w32 (-(f_140 (w32 (((S.length : Nat) : Int) - 1)) v1))))] v1 (fun _ v' => Q 0 v'))) : RR t (d + 2) 56 [(2, 31)] v Q := by
  obtain ⟨e1, e2, e3, e4, e5, hv⟩ := ac_pre hc ha
  refine s_56 (d := d) ?_
  rw [e4, e1, e2, e3, e5]
  exact ⟨fun c => absurd c (by decide), fun _ => ⟨fun c => absurd c (by decide), fun _ => ⟨fun c => absurd c (by decide), fun _ => ⟨fun c => absurd c (by decide), fun _ => ⟨fun c => absurd c (by decide), fun _ => ⟨fun c => absurd c (by decide), fun _ => ⟨fun c => absurd c (by decide), fun _ => ⟨fun c => absurd c (by decide), fun _ => ⟨fun c => absurd c (by decide), fun _ => ⟨fun c => absurd c (by decide), fun _ => ⟨fun c => absurd c (by decide), fun _ => ⟨fun c => absurd c (by decide), fun _ => ⟨fun c => absurd c (by decide), fun _ => ⟨fun c => absurd c (by decide), fun _ => ⟨fun c => absurd c (by decide), fun _ => ⟨fun _ => h _ hv, fun c => absurd rfl c⟩⟩⟩⟩⟩⟩⟩⟩⟩⟩⟩⟩⟩⟩⟩⟩
theorem ac_16 {t : Int} {d : Nat} {v0 v : Mem} {Q : Int → Mem → Prop} {n z dp pc : Nat} {FB : List (Nat × Nat)} {S : List Rw} {ρ : Rho} {f s : Int} (hc : CM v0 n z dp pc FB S ρ v) (ha : actAt v0 pc 16 f s) (h : ∀ v1, CM v0 n z dp (pc + 1) FB S ρ v1 → (((f_140 (w32 (((S.length : Nat) : Int) - 1)) v1) = 0 → (RR t (d + 1) 146 [(2, 32), (0, 1), (0, 1)] v1 (fun _ v' => Q 0 v'))) ∧ (¬ (f_140 (w32 (((S.length : Nat) : Int) - 1)) v1) = 0 → (RR t (d + 1) 146 [(2, 32), (0, 1), (0, 0)] v1 (fun _ v' => Q 0 v'))))) : RR t (d + 2) 56 [(2, 31)] v Q := by
  obtain ⟨e1, e2, e3, e4, e5, hv⟩ := ac_pre hc ha
  refine s_56 (d := d) ?_
  rw [e4, e1, e2, e3, e5]
  exact ⟨fun c => absurd c (by decide), fun _ => ⟨fun c => absurd c (by decide), fun _ => ⟨fun c => absurd c (by decide), fun _ => ⟨fun c => absurd c (by decide), fun _ => ⟨fun c => absurd c (by decide), fun _ => ⟨fun c => absurd c (by decide), fun _ => ⟨fun c => absurd c (by decide), fun _ => ⟨fun c => absurd c (by decide), fun _ => ⟨fun c => absurd c (by decide), fun _ => ⟨fun c => absurd c (by decide), fun _ => ⟨fun c => absurd c (by decide), fun _ => ⟨fun c => absurd c (by decide), fun _ => ⟨fun c => absurd c (by decide), fun _ => ⟨fun c => absurd c (by decide), fun _ => ⟨fun c => absurd c (by decide), fun _ => ⟨fun c => absurd c (by decide), fun _ => ⟨fun _ => h _ hv, fun c => absurd rfl c⟩⟩⟩⟩⟩⟩⟩⟩⟩⟩⟩⟩⟩⟩⟩⟩⟩
theorem ac_17 {t : Int} {d : Nat} {v0 v : Mem} {Q : Int → Mem → Prop} {n z dp pc : Nat} {FB : List (Nat × Nat)} {S : List Rw} {ρ : Rho} {f s : Int} (hc : CM v0 n z dp pc FB S ρ v) (ha : actAt v0 pc 17 f s) (h : ∀ v1, CM v0 n z dp (pc + 1) FB S ρ v1 → (RR t (d + 1) 64 [(2, 31), (0, f), (0, (f_140 (w32 ((w32 (((S.length : Nat) : Int) - 1)) - 1)) v1)), (0, (f_140 (w32 (((S.length : Nat) : Int) - 1)) v1))] v1 (fun _ v' => Q 0 v'))) : RR t (d + 2) 56 [(2, 31)] v Q := by
  obtain ⟨e1, e2, e3, e4, e5, hv⟩ := ac_pre hc ha
  refine s_56 (d := d) ?_
  rw [e4, e1, e2, e3, e5]
  exact ⟨fun c => absurd c (by decide), fun _ => ⟨fun c => absurd c (by decide), fun _ => ⟨fun c => absurd c (by decide), fun _ => ⟨fun c => absurd c (by decide), fun _ => ⟨fun c => absurd c (by decide), fun _ => ⟨fun c => absurd c (by decide), fun _ => ⟨fun c => absurd c (by decide), fun _ => ⟨fun c => absurd c (by decide), fun _ => ⟨fun c => absurd c (by decide), fun _ => ⟨fun c => absurd c (by decide), fun _ => ⟨fun c => absurd c (by decide), fun _ => ⟨fun c => absurd c (by decide), fun _ => ⟨fun c => absurd c (by decide), fun _ => ⟨fun c => absurd c (by decide), fun _ => ⟨fun c => absurd c (by decide), fun _ => ⟨fun c => absurd c (by decide), fun _ => ⟨fun c => absurd c (by decide), fun _ => ⟨fun _ => h _ hv, fun c => absurd rfl c⟩⟩⟩⟩⟩⟩⟩⟩⟩⟩⟩⟩⟩⟩⟩⟩⟩⟩
theorem ac_18 {t : Int} {d : Nat} {v0 v : Mem} {Q : Int → Mem → Prop} {n z dp pc : Nat} {FB : List (Nat × Nat)} {S : List Rw} {ρ : Rho} {f s : Int} (hc : CM v0 n z dp pc FB S ρ v) (ha : actAt v0 pc 18 f s) (h : ∀ v1, CM v0 n z dp (pc + 1) FB S ρ v1 → (RR t (d + 1) 66 [(2, 31), (0, f), (0, s)] v1 (fun _ v' => Q 0 v'))) : RR t (d + 2) 56 [(2, 31)] v Q := by
  obtain ⟨e1, e2, e3, e4, e5, hv⟩ := ac_pre hc ha
  refine s_56 (d := d) ?_
  rw [e4, e1, e2, e3, e5]
  exact ⟨fun c => absurd c (by decide), fun _ => ⟨fun c => absurd c (by decide), fun _ => ⟨fun c => absurd c (by decide), fun _ => ⟨fun c => absurd c (by decide), fun _ => ⟨fun c => absurd c (by decide), fun _ => ⟨fun c => absurd c (by decide), fun _ => ⟨fun c => absurd c (by decide), fun _ => ⟨fun c => absurd c (by decide), fun _ => ⟨fun c => absurd c (by decide), fun _ => ⟨fun c => absurd c (by decide), fun _ => ⟨fun c => absurd c (by decide), fun _ => ⟨fun c => absurd c (by decide), fun _ => ⟨fun c => absurd c (by decide), fun _ => ⟨fun c => absurd c (by decide), fun _ => ⟨fun c => absurd c (by decide), fun _ => ⟨fun c => absurd c (by decide), fun _ => ⟨fun c => absurd c (by decide), fun _ => ⟨fun c => absurd c (by decide), fun _ => ⟨fun _ => h _ hv, fun c => absurd rfl c⟩⟩⟩⟩⟩⟩⟩⟩⟩⟩⟩⟩⟩⟩⟩⟩⟩⟩⟩
theorem ac_19 {t : Int} {d : Nat} {v0 v : Mem} {Q : Int → Mem → Prop} {n z dp pc : Nat} {FB : List (Nat × Nat)} {S : List Rw} {ρ : Rho} {f s : Int} (hc : CM v0 n z dp pc FB S ρ v) (ha : actAt v0 pc 19 f s) (h : ∀ v1, CM v0 n z dp (pc + 1) FB S ρ v1 → (RR t (d + 1) 71 [(2, 31)] v1 (fun _ v' => Q 0 v'))) : RR t (d + 2) 56 [(2, 31)] v Q := by
  obtain ⟨e1, e2, e3, e4, e5, hv⟩ := ac_pre hc ha
  refine s_56 (d := d) ?_
  rw [e4, e1, e2, e3, e5]
  exact ⟨fun c => absurd c (by decide), fun _ => ⟨fun c => absurd c (by decide), fun _ => ⟨fun c => absurd c (by decide), fun _ => ⟨fun c => absurd c (by decide), fun _ => ⟨fun c => absurd c (by decide), fun _ => ⟨fun c => absurd c (by decide), fun _ => ⟨fun c => absurd c (by decide), fun _ => ⟨fun c => absurd c (by decide), fun _ => ⟨fun c => absurd c (by decide), fun _ => ⟨fun c => absurd c (by decide), fun _ => ⟨fun c => absurd c (by decide), fun _ => ⟨fun c => absurd c (by decide), fun _ => ⟨fun c => absurd c (by decide), fun _ => ⟨fun c => absurd c (by decide), fun _ => ⟨fun c => absurd c (by decide), fun _ => ⟨fun c => absurd c (by decide), fun _ => ⟨fun c => absurd c (by decide), fun _ => ⟨fun c => absurd c (by decide), fun _ => ⟨fun c => absurd c (by decide), fun _ => ⟨fun _ => h _ hv, fun c => absurd rfl c⟩⟩⟩⟩⟩⟩⟩⟩⟩⟩⟩⟩⟩⟩⟩⟩⟩⟩⟩⟩
theorem ac_20 {t : Int} {d : Nat} {v0 v : Mem} {Q : Int → Mem → Prop} {n z dp pc : Nat} {FB : List (Nat × Nat)} {S : List Rw} {ρ : Rho} {f s : Int} (hc : CM v0 n z dp pc FB S ρ v) (ha : actAt v0 pc 20 f s) (h : ∀ v1, CM v0 n z dp (pc + 1) FB S ρ v1 → (RR t (d + 1) 72 [(2, 31)] v1 (fun _ v' => Q 0 v'))) : RR t (d + 2) 56 [(2, 31)] v Q := by
  obtain ⟨e1, e2, e3, e4, e5, hv⟩ := ac_pre hc ha
  refine s_56 (d := d) ?_
  rw [e4, e1, e2, e3, e5]
  exact ⟨fun c => absurd c (by decide), fun _ => ⟨fun c => absurd c (by decide), fun _ => ⟨fun c => absurd c (by decide), fun _ => ⟨fun c => absurd c (by decide), fun _ => ⟨fun c => absurd c (by decide), fun _ => ⟨fun c => absurd c (by decide), fun _ => ⟨fun c => absurd c (by decide), fun _ => ⟨fun c => absurd c (by decide), fun _ => ⟨fun c => absurd c (by decide), fun _ => ⟨fun c => absurd c (by decide), fun _ => ⟨fun c => absurd c (by decide), fun _ => ⟨fun c => absurd c (by decide), fun _ => ⟨fun c => absurd c (by decide), fun _ => ⟨fun c => absurd c (by decide), fun _ => ⟨fun c => absurd c (by decide), fun _ => ⟨fun c => absurd c (by decide), fun _ => ⟨fun c => absurd c (by decide), fun _ => ⟨fun c => absurd c (by decide), fun _ => ⟨fun c => absurd c (by decide), fun _ => ⟨fun c => absurd c (by decide), fun _ => ⟨fun _ => h _ hv, fun c => absurd rfl c⟩⟩⟩⟩⟩⟩⟩⟩⟩⟩⟩⟩⟩⟩⟩⟩⟩⟩⟩⟩⟩
theorem ac_21 {t : Int} {d : Nat} {v0 v : Mem} {Q : Int → Mem → Prop} {n z dp pc : Nat} {FB : List (Nat × Nat)} {S : List Rw} {ρ : Rho} {f s : Int} (hc : CM v0 n z dp pc FB S ρ v) (ha : actAt v0 pc 21 f s) (h : ∀ v1, CM v0 n z dp (pc + 1) FB S ρ v1 → (RR t (d + 1) 73 [(2, 31)] v1 (fun _ v' => Q 0 v'))) : RR t (d + 2) 56 [(2, 31)] v Q := by
  obtain ⟨e1, e2, e3, e4, e5, hv⟩ := ac_pre hc ha
  refine s_56 (d := d) ?_
  rw [e4, e1, e2, e3, e5]
  exact ⟨fun c => absurd c (by decide), fun _ => ⟨fun c => absurd c (by decide), fun _ => ⟨fun c => absurd c (by decide), fun _ => ⟨fun c => absurd c (by decide), fun _ => ⟨fun c => absurd c (by decide), fun _ => ⟨fun c => absurd c (by decide), fun _ => ⟨fun c => absurd c (by decide), fun _ => ⟨fun c => absurd c (by decide), fun _ => ⟨fun c => absurd c (by decide), fun _ => ⟨fun c => absurd c (by decide), fun _ => ⟨fun c => absurd c (by decide), fun _ => ⟨fun c => absurd c (by decide), fun _ => ⟨fun c => absurd c (by decide), fun _ => ⟨fun c => absurd c (by decide), fun _ => ⟨fun c => absurd c (by decide), fun _ => ⟨fun c => absurd c (by decide), fun _ => ⟨fun c => absurd c (by decide), fun _ => ⟨fun c => absurd c (by decide), fun _ => ⟨fun c => absurd c (by decide), fun _ => ⟨fun c => absurd c (by decide), fun _ => ⟨fun c => absurd c (by decide), fun _ => ⟨fun _ => h _ hv, fun c => absurd rfl c⟩⟩⟩⟩⟩⟩⟩⟩⟩⟩⟩⟩⟩⟩⟩⟩⟩⟩⟩⟩⟩⟩
theorem ac_22 {t : Int} {d : Nat} {v0 v : Mem} {Q : Int → Mem → Prop} {n z dp pc : Nat} {FB : List (Nat × Nat)} {S : List Rw} {ρ : Rho} {f s : Int} (hc : CM v0 n z dp pc FB S ρ v) (ha : actAt v0 pc 22 f s) (h : ∀ v1, CM v0 n z dp (pc + 1) FB S ρ v1 → (RR t (d + 1) 146 [(2, 32), (0, 1), (0, (f_141 (w32 (((S.length : Nat) : Int) - 1)) v1))] v1 (fun _ v' => Q 0 v'))) : RR t (d + 2) 56 [(2, 31)] v Q := by
  obtain ⟨e1, e2, e3, e4, e5, hv⟩ := ac_pre hc ha
  refine s_56 (d := d) ?_
  rw [e4, e1, e2, e3, e5]
  exact ⟨fun c => absurd c (by decide), fun _ => ⟨fun c => absurd c (by decide), fun _ => ⟨fun c => absurd c (by decide), fun _ => ⟨fun c => absurd c (by decide), fun _ => ⟨fun c => absurd c (by decide), fun _ => ⟨fun c => absurd c (by decide), fun _ => ⟨fun c => absurd c (by decide), fun _ => ⟨fun c => absurd c (by decide), fun _ => ⟨fun c => absurd c (by decide), fun _ => ⟨fun c => absurd c (by decide), fun _ => ⟨fun c => absurd c (by decide), fun _ => ⟨fun c => absurd c (by decide), fun _ => ⟨fun c => absurd c (by decide), fun _ => ⟨fun c => absurd c (by decide), fun _ => ⟨fun c => absurd c (by decide), fun _ => ⟨fun c => absurd c (by decide), fun _ => ⟨fun c => absurd c (by decide), fun _ => ⟨fun c => absurd c (by decide), fun _ => ⟨fun c => absurd c (by decide), fun _ => ⟨fun c => absurd c (by decide), fun _ => ⟨fun c => absurd c (by decide), fun _ => ⟨fun c => absurd c (by decide), fun _ => ⟨fun _ => h _ hv, fun c => absurd rfl c⟩⟩⟩⟩⟩⟩⟩⟩⟩⟩⟩⟩⟩⟩⟩⟩⟩⟩⟩⟩⟩⟩⟩
theorem ac_23 {t : Int} {d : Nat} {v0 v : Mem} {Q : Int → Mem → Prop} {n z dp pc : Nat} {FB : List (Nat × Nat)} {S : List Rw} {ρ : Rho} {f s : Int} (hc : CM v0 n z dp pc FB S ρ v) (ha : actAt v0 pc 23 f s) (h : ∀ v1, CM v0 n z dp (pc + 1) FB S ρ v1 → (RR t (d + 1) 74 [(2, 31)] v1 (fun _ v' => Q 0 v'))) : RR t (d + 2) 56 [(2, 31)] v Q := by
  obtain ⟨e1, e2, e3, e4, e5, hv⟩ := ac_pre hc ha
  refine s_56 (d := d) ?_
  rw [e4, e1, e2, e3, e5]
  exact ⟨fun c => absurd c (by decide), fun _ => ⟨fun c => absurd c (by decide), fun _ => ⟨fun c => absurd c (by decide), fun _ => ⟨fun c => absurd c (by decide), fun _ => ⟨fun c => absurd c (by decide), fun _ => ⟨fun c => absurd c (by decide), fun _ => ⟨fun c => absurd c (by decide), fun _ => ⟨fun c => absurd c (by decide), fun _ => ⟨fun c => absurd c (by decide), fun _ => ⟨fun c => absurd c (by decide), fun _ => ⟨fun c => absurd c (by decide), fun _ => ⟨fun c => absurd c (by decide), fun _ => ⟨fun c => absurd c (by decide), fun _ => ⟨fun c => absurd c (by decide), fun _ => ⟨fun c => absurd c (by decide), fun _ => ⟨fun c => absurd c (by decide), fun _ => ⟨fun c => absurd c (by decide), fun _ => ⟨fun c => absurd c (by decide), fun _ => ⟨fun c => absurd c (by decide), fun _ => ⟨fun c => absurd c (by decide), fun _ => ⟨fun c => absurd c (by decide), fun _ => ⟨fun c => absurd c (by decide), fun _ => ⟨fun c => absurd c (by decide), fun _ => ⟨fun _ => h _ hv, fun c => absurd rfl c⟩⟩⟩⟩⟩⟩⟩⟩⟩⟩⟩⟩⟩⟩⟩⟩⟩⟩⟩⟩⟩⟩⟩⟩
theorem ac_24 {t : Int} {d : Nat} {v0 v : Mem} {Q : Int → Mem → Prop} {n z dp pc : Nat} {FB : List (Nat × Nat)} {S : List Rw} {ρ : Rho} {f s : Int} (hc : CM v0 n z dp pc FB S ρ v) (ha : actAt v0 pc 24 f s) (h : ∀ v1, CM v0 n z dp (pc + 1) FB S ρ v1 → (RR t (d + 1) 76 [(2, 31)] v1 (fun _ v' => Q 0 v'))) : RR t (d + 2) 56 [(2, 31)] v Q := by
  obtain ⟨e1, e2, e3, e4, e5, hv⟩ := ac_pre hc ha
  refine s_56 (d := d) ?_
  rw [e4, e1, e2, e3, e5]
  exact ⟨fun c => absurd c (by decide), fun _ => ⟨fun c => absurd c (by decide), fun _ => ⟨fun c => absurd c (by decide), fun _ => ⟨fun c => absurd c (by decide), fun _ => ⟨fun c => absurd c (by decide), fun _ => ⟨fun c => absurd c (by decide), fun _ => ⟨fun c => absurd c (by decide), fun _ => ⟨fun c => absurd c (by decide), fun _ => ⟨fun c => absurd c (by decide), fun _ => ⟨fun c => absurd c (by decide), fun _ => ⟨fun c => absurd c (by decide), fun _ => ⟨fun c => absurd c (by decide), fun _ => ⟨fun c => absurd c (by decide), fun _ => ⟨fun c => absurd c (by decide), fun _ => ⟨fun c => absurd c (by decide), fun _ => ⟨fun c => absurd c (by decide), fun _ => ⟨fun c => absurd c (by decide), fun _ => ⟨fun c => absurd c (by decide), fun _ => ⟨fun c => absurd c (by decide), fun _ => ⟨fun c => absurd c (by decide), fun _ => ⟨fun c => absurd c (by decide), fun _ => ⟨fun c => absurd c (by decide), fun _ => ⟨fun c => absurd c (by decide), fun _ => ⟨fun c => absurd c (by decide), fun _ => ⟨fun _ => h _ hv, fun c => absurd rfl c⟩⟩⟩⟩⟩⟩⟩⟩⟩⟩⟩⟩⟩⟩⟩⟩⟩⟩⟩⟩⟩⟩⟩⟩⟩
theorem ac_25 {t : Int} {d : Nat} {v0 v : Mem} {Q : Int → Mem → Prop} {n z dp pc : Nat} {FB : List (Nat × Nat)} {S : List Rw} {ρ : Rho} {f s : Int} (hc : CM v0 n z dp pc FB S ρ v) (ha : actAt v0 pc 25 f s) (h : ∀ v1, CM v0 n z dp (pc + 1) FB S ρ v1 → (RR t (d + 1) 77 [(2, 31)] v1 (fun _ v' => Q 0 v'))) : RR t (d + 2) 56 [(2, 31)] v Q := by
  obtain ⟨e1, e2, e3, e4, e5, hv⟩ := ac_pre hc ha
  refine s_56 (d := d) ?_
  rw [e4, e1, e2, e3, e5]
  exact ⟨fun c => absurd c (by decide), fun _ => ⟨fun c => absurd c (by decide), fun _ => ⟨fun c => absurd c (by decide), fun _ => ⟨fun c => absurd c (by decide), fun _ => ⟨fun c => absurd c (by decide), fun _ => ⟨fun c => absurd c (by decide), fun _ => ⟨fun c => absurd c (by decide), fun _ => ⟨fun c => absurd c (by decide), fun _ => ⟨fun c => absurd c (by decide), fun _ => ⟨fun c => absurd c (by decide), fun _ => ⟨fun c => absurd c (by decide), fun _ => ⟨fun c => absurd c (by decide), fun _ => ⟨fun c => absurd c (by decide), fun _ => ⟨fun c => absurd c (by decide), fun _ => ⟨fun c => absurd c (by decide), fun _ => ⟨fun c => absurd c (by decide), fun _ => ⟨fun c => absurd c (by decide), fun _ => ⟨fun c => absurd c (by decide), fun _ => ⟨fun c => absurd c (by decide), fun _ => ⟨fun c => absurd c (by decide), fun _ => ⟨fun c => absurd c (by decide), fun _ => ⟨fun c => absurd c (by decide), fun _ => ⟨fun c => absurd c (by decide), fun _ => ⟨fun c => absurd c (by decide), fun _ => ⟨fun c => absurd c (by decide), fun _ => ⟨fun _ => h _ hv, fun c => absurd rfl c⟩⟩⟩⟩⟩⟩⟩⟩⟩⟩⟩⟩⟩⟩⟩⟩⟩⟩⟩⟩⟩⟩⟩⟩⟩⟩
