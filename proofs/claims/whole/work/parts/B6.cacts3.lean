/-! The class's machine: acts on ints; texts compared, looked into. -/
def rkn (k a b : Int) : Int := if k = 42 then w32 (a * b) else if k = 43 then w32 (a + b) else if k = 45 then w32 (a - b) else if k = 47 then w32 (Int.tdiv a b) else Int.tmod a b
theorem rkn_b {k a b : Int} (ha : -2147483648 ≤ a ∧ a < 2147483648) : -2147483648 ≤ rkn k a b ∧ rkn k a b < 2147483648 := by
  unfold rkn
  split
  · exact w32_r _
  · split
    · exact w32_r _
    · split
      · exact w32_r _
      · split
        · exact w32_r _
        · exact tmod_r ⟨by decide, by decide⟩ ha
theorem at_truth {t : Int} {d : Nat} {v0 v : Mem} {Q : Int → Mem → Prop} {n z dp pc : Nat} {FB : List (Nat × Nat)} {S : List Rw} {r : Rw} {ρ : Rho} {f s : Int} (hc : CM v0 n z dp pc FB (S ++ [r]) ρ v) (hl : S.length < 1440) (ha : actAt v0 pc 14 f s) (h : ∀ v', CM v0 n z dp (pc + 1) FB (S ++ [(-1, tr r.2.1, 0)]) (wH ρ (gc (S ++ [(-1, tr r.2.1, 0)]) z0 (rH ρ))) v' → Q 0 v') : RR t (d + 3) 56 [(2, 31)] v Q := ac_14 hc ha (fun v1 k => by
  have e : f_140 (w32 ((((S ++ [r]).length : Nat) : Int) - 1)) v1 = r.2.1 := (rdT (T := [r]) (k := 0) (jj := 1) k.1.1 (Nat.lt_succ_self _) rfl).2.1
  rw [e]
  unfold tr at h
  refine ⟨fun c => ?_, fun c => ?_⟩
  · rw [if_pos c] at h
    exact k.int hl rfl (by decide) (by decide) (fun v' q => h _ q)
  · rw [if_neg c] at h
    exact k.int hl rfl (by decide) (by decide) (fun v' q => h _ q))
theorem at_neg {t : Int} {d : Nat} {v0 v : Mem} {Q : Int → Mem → Prop} {n z dp pc : Nat} {FB : List (Nat × Nat)} {S : List Rw} {r : Rw} {ρ : Rho} {f s : Int} (hc : CM v0 n z dp pc FB (S ++ [r]) ρ v) (hl : S.length < 1440) (ha : actAt v0 pc 15 f s) (h : ∀ v', CM v0 n z dp (pc + 1) FB (S ++ [(-1, w32 (-r.2.1), 0)]) (wH ρ (gc (S ++ [(-1, w32 (-r.2.1), 0)]) z0 (rH ρ))) v' → Q 0 v') : RR t (d + 3) 56 [(2, 31)] v Q := ac_15 hc ha (fun v1 k => by
  have e : f_140 (w32 ((((S ++ [r]).length : Nat) : Int) - 1)) v1 = r.2.1 := (rdT (T := [r]) (k := 0) (jj := 1) k.1.1 (Nat.lt_succ_self _) rfl).2.1
  rw [e]
  exact k.int hl rfl (w32_r _).1 (w32_r _).2 (fun v' q => h _ q))
theorem at_not {t : Int} {d : Nat} {v0 v : Mem} {Q : Int → Mem → Prop} {n z dp pc : Nat} {FB : List (Nat × Nat)} {S : List Rw} {r : Rw} {ρ : Rho} {f s : Int} (hc : CM v0 n z dp pc FB (S ++ [r]) ρ v) (hl : S.length < 1440) (ha : actAt v0 pc 16 f s) (h : ∀ v', CM v0 n z dp (pc + 1) FB (S ++ [(-1, 1 - tr r.2.1, 0)]) (wH ρ (gc (S ++ [(-1, 1 - tr r.2.1, 0)]) z0 (rH ρ))) v' → Q 0 v') : RR t (d + 3) 56 [(2, 31)] v Q := ac_16 hc ha (fun v1 k => by
  have e : f_140 (w32 ((((S ++ [r]).length : Nat) : Int) - 1)) v1 = r.2.1 := (rdT (T := [r]) (k := 0) (jj := 1) k.1.1 (Nat.lt_succ_self _) rfl).2.1
  rw [e]
  unfold tr at h
  refine ⟨fun c => ?_, fun c => ?_⟩
  · rw [if_pos c] at h
    exact k.int hl rfl (by decide) (by decide) (fun v' q => h _ q)
  · rw [if_neg c] at h
    exact k.int hl rfl (by decide) (by decide) (fun v' q => h _ q))
theorem at_len {t : Int} {d : Nat} {v0 v : Mem} {Q : Int → Mem → Prop} {n z dp pc : Nat} {FB : List (Nat × Nat)} {S : List Rw} {r : Rw} {ρ : Rho} {f s : Int} (hn : n ≤ 3000) (hc : CM v0 n z dp pc FB (S ++ [r]) ρ v) (hl : S.length < 1440) (ha : actAt v0 pc 22 f s) (h : ∀ v', CM v0 n z dp (pc + 1) FB (S ++ [(-1, r.2.2, 0)]) (wH ρ (gc (S ++ [(-1, r.2.2, 0)]) z0 (rH ρ))) v' → Q 0 v') : RR t (d + 3) 56 [(2, 31)] v Q := ac_22 hc ha (fun v1 k => by
  have e : f_141 (w32 ((((S ++ [r]).length : Nat) : Int) - 1)) v1 = r.2.2 := (rdT (T := [r]) (k := 0) (jj := 1) k.1.1 (Nat.lt_succ_self _) rfl).2.2
  rw [e]
  have b := (k.2.2.1 r (List.mem_append.mpr (Or.inr List.mem_cons_self))).i32 hn k.hz
  exact k.int hl rfl (by omega) (by omega) (fun v' q => h _ q))
/-- what two rows at the top are -/
theorem rd2 {v : Mem} {S : List Rw} {x r : Rw} (h : VR v (S ++ [x, r])) : (f_139 (w32 ((((S ++ [x, r]).length : Nat) : Int) - 2)) v = x.1 ∧ f_140 (w32 ((((S ++ [x, r]).length : Nat) : Int) - 2)) v = x.2.1 ∧ f_141 (w32 ((((S ++ [x, r]).length : Nat) : Int) - 2)) v = x.2.2) ∧ (f_139 (w32 ((((S ++ [x, r]).length : Nat) : Int) - 1)) v = r.1 ∧ f_140 (w32 ((((S ++ [x, r]).length : Nat) : Int) - 1)) v = r.2.1 ∧ f_141 (w32 ((((S ++ [x, r]).length : Nat) : Int) - 1)) v = r.2.2) :=
  ⟨rdT (T := [x, r]) (k := 0) (jj := 2) h (by show 0 < 2; decide) rfl, rdT (T := [x, r]) (k := 1) (jj := 1) h (by show 1 < 2; decide) rfl⟩
theorem at_reck {t : Int} {d : Nat} {v0 v : Mem} {Q : Int → Mem → Prop} {n z dp pc : Nat} {FB : List (Nat × Nat)} {S : List Rw} {x r : Rw} {ρ : Rho} {f s : Int} (hn : n ≤ 3000) (hc : CM v0 n z dp pc FB (S ++ [x, r]) ρ v) (hl : S.length < 1440) (ha : actAt v0 pc 17 f s) (hf : f = 42 ∨ f = 43 ∨ f = 45 ∨ f = 47 ∨ f = 37) (h1 : (f = 47 ∨ f = 37) ∧ r.2.1 = 0 → ∀ v', CE v0 z 1 0 ρ v' → Q 0 v') (h2 : ¬ ((f = 47 ∨ f = 37) ∧ r.2.1 = 0) → ∀ v', CM v0 n z dp (pc + 1) FB (S ++ [(-1, rkn f x.2.1 r.2.1, 0)]) (wH ρ (gc (S ++ [(-1, rkn f x.2.1 r.2.1, 0)]) z0 (rH ρ))) v' → Q 0 v') : RR t (d + 4) 56 [(2, 31)] v Q := ac_17 hc ha (fun v1 k => by
  obtain ⟨⟨-, e1, -⟩, ⟨-, e2, -⟩⟩ := rd2 k.1.1
  have hL := k.1.1.2.1
  have hL2 : (S ++ [x, r]).length = S.length + 2 := by rw [List.length_append]; rfl
  have ew : w32 (w32 ((((S ++ [x, r]).length : Nat) : Int) - 1) - 1) = w32 ((((S ++ [x, r]).length : Nat) : Int) - 2) := by
    rw [hL2, wNat (k := S.length + 1) (a := ((S.length + 2 : Nat) : Int) - 1) (by omega) (by omega), wNat (k := S.length) (a := ((S.length + 1 : Nat) : Int) - 1) (by omega) (by omega), wNat (k := S.length) (a := ((S.length + 2 : Nat) : Int) - 2) (by omega) (by omega)]
  rw [ew, e1, e2]
  have b := ((k.2.2.1 x (List.mem_append.mpr (Or.inr List.mem_cons_self))).i32 hn k.hz).1
  have fin : ¬ ((f = 47 ∨ f = 37) ∧ r.2.1 = 0) → RR t (d + 2) 65 [(0, f), (0, x.2.1), (0, r.2.1)] v1 (fun x3 v3 => RR t (d + 2) 146 [(2, 32), (0, 2), (0, x3)] v3 (fun _ v4 => Q 0 v4)) := fun c => by
    have g : RR t (d + 2) 146 [(2, 32), (0, 2), (0, rkn f x.2.1 r.2.1)] v1 (fun _ v4 => Q 0 v4) := k.int hl rfl (rkn_b b).1 (rkn_b b).2 (fun v' q => h2 c _ q)
    unfold rkn at g
    refine w_65 ⟨fun c1 => ?_, fun c1 => ⟨fun c2 => ?_, fun c2 => ⟨fun c3 => absurd c3 (by omega), fun c3 => ⟨fun c4 => ?_, fun c4 => ⟨fun c5 => absurd c5 (by omega), fun c5 => ⟨fun c6 => ⟨fun c7 => absurd ⟨Or.inl c6, c7⟩ c, fun c7 => ⟨c7, ?_⟩⟩, fun c6 => ⟨fun c7 => absurd ⟨Or.inr (by omega), c7⟩ c, fun c7 => ⟨c7, ?_⟩⟩⟩⟩⟩⟩⟩⟩
    · rw [if_pos c1] at g; exact g
    · rw [if_neg c1, if_pos c2] at g; exact g
    · rw [if_neg c1, if_neg c2, if_pos c4] at g; exact g
    · rw [if_neg c1, if_neg c2, if_neg c4, if_pos c6] at g; exact g
    · rw [if_neg c1, if_neg c2, if_neg c4, if_neg c6] at g; exact g
  refine s_64 (d := d + 2) ⟨fun c1 => ⟨fun c2 => h1 ⟨Or.inl c1, c2⟩ _ k.ends, fun c2 => fin (fun q => c2 q.2)⟩, fun c1 => ⟨fun c3 => ⟨fun c2 => h1 ⟨Or.inr c3, c2⟩ _ k.ends, fun c2 => fin (fun q => c2 q.2)⟩, fun c3 => fin (fun q => q.1.elim c1 c3)⟩⟩)
/-- the bytes of text and heap, in one row -/
def bt (tx hb : Nat → Int) (a : Nat) : Int := if a < 3000 then tx a else hb (a - 3000)
theorem CBy.get {v0 v : Mem} {hb : Nat → Int} {tl : List Int} (h : CBy v0 hb tl v) {a : Nat} (ha : a < 7000) : v 14 a = bt (v0 14) hb a := by
  unfold bt
  split
  · exact h.1 a (by omega)
  · have q := h.2.1 (a - 3000) (by omega)
    rw [show 3000 + (a - 3000) = a from by omega] at q
    exact q
theorem CHN_18 {v : Mem} {b : Nat × Nat × Nat} : ∀ (H : Hp) (p : Nat), CHN v p H → b ∈ H → v 18 b.1 = ((b.2.1 : Nat) : Int) := by
  intro H
  induction H with
  | nil => intro p _ h; cases h
  | cons c r ih =>
    intro p q h
    rcases List.mem_cons.mp h with e | e
    · rw [e]; exact q.2.2.1
    · exact ih _ q.2.2.2.2 e
theorem CM.m36 {v0 v : Mem} {n z dp pc : Nat} {FB : List (Nat × Nat)} {S : List Rw} {ρ : Rho} {r : Rw} {x : Int} (h : CM v0 n z dp pc FB S ρ v) (hr : r ∈ S) : m_36 r.1 x v = v := by
  unfold m_36
  rcases (h.2.2.1 r hr).blk with e | ⟨b, hb, e⟩
  · rw [e, if_pos (by decide)]
  · have h2 := hok_in _ _ h.1.2.1.1.2.1 hb
    rw [e, if_neg (by omega), Int.toNat_natCast, CHN_18 _ _ h.1.2.1.1.2.2 hb, if_neg (c := ((b.2.1 : Nat) : Int) = 0) (by omega)]
    split <;> rfl
theorem rok.nat {n : Nat} {H : Hp} {r : Rw} (h : rok n H r) (hn : n ≤ 3000) (hz : ∀ b ∈ H, b.1 + b.2.1 ≤ 4000) : ∃ c : Nat, r.2.2 = (c : Int) ∧ c < 5000 ∧ (1 ≤ c → ∃ s : Nat, r.2.1 = (s : Int) ∧ s + c < 7000) := by
  rcases h with ⟨a, e, h1, h2⟩ | ⟨s, c, e, h1, h2⟩ | ⟨b, hb, o, c, e, h1, h2⟩
  · rw [e]; exact ⟨0, rfl, by decide, fun x => absurd x (by decide)⟩
  · rw [e]; exact ⟨c, rfl, by omega, fun _ => ⟨s, rfl, by omega⟩⟩
  · have := hz b hb
    rw [e]; exact ⟨c, rfl, by omega, fun _ => ⟨_, rfl, by omega⟩⟩
