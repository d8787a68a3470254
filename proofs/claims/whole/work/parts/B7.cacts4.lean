/-! The class's machine: byte, part, compare, find. -/
theorem iand_b (a : Int) : 0 ≤ iand a 255 ∧ iand a 255 < 256 := by
  have e : iand a 255 = iand (w32 a) 255 := by unfold iand; rw [o32 a]
  have r := w32_r a
  rw [e, iand_255 r.1 r.2]
  generalize w32 a = x
  omega
def byA (b : Nat → Int) (x : Rw) (i : Int) : Int := if i < 0 then -1 else if i < x.2.2 then iand (b (x.2.1 + i).toNat) 255 else -1
/-- bytes are bytes -/
def BYT (b : Nat → Int) : Prop := ∀ a, a < 7000 → -128 ≤ b a ∧ b a < 128
theorem f2_p {v : Mem} {a : Nat} (h : a < 9011) : f_2 (a : Int) v = iand (v 14 a) 255 := by
  unfold f_2
  rw [if_neg (by omega), if_pos (by omega), Int.toNat_natCast]
theorem at_byte {t : Int} {d : Nat} {v0 v : Mem} {Q : Int → Mem → Prop} {n z dp pc : Nat} {FB : List (Nat × Nat)} {S : List Rw} {x r : Rw} {ρ : Rho} {f s : Int} (hn : n ≤ 3000) (hc : CM v0 n z dp pc FB (S ++ [x, r]) ρ v) (hl : S.length < 1440) (ha : actAt v0 pc 20 f s) (h : ∀ v', CM v0 n z dp (pc + 1) FB (S ++ [(-1, byA (bt (v0 14) (rB ρ)) x r.2.1, 0)]) (wH ρ (gc (S ++ [(-1, byA (bt (v0 14) (rB ρ)) x r.2.1, 0)]) z0 (rH ρ))) v' → Q 0 v') : RR t (d + 4) 56 [(2, 31)] v Q := ac_20 hc ha (fun v1 k => by
  obtain ⟨⟨e0, e1, e3⟩, ⟨-, e2, -⟩⟩ := rd2 k.1.1
  have hx : x ∈ S ++ [x, r] := List.mem_append.mpr (Or.inr List.mem_cons_self)
  obtain ⟨c, c1, c2, c3⟩ := (k.2.2.1 x hx).nat hn k.hz
  refine s_72 (d := d) ?_
  rw [k.1.1.1, e0, e2, e3, k.m36 hx, e1]
  unfold byA at h
  refine ⟨fun g1 => ?_, fun g1 => ⟨fun g2 => ?_, fun g2 => ?_⟩⟩
  · rw [if_pos g1] at h
    exact k.int hl rfl (by decide) (by decide) (fun v' q => h _ q)
  · rw [if_neg g1, if_pos g2] at h
    obtain ⟨s0, s1, s2⟩ := c3 (by omega)
    obtain ⟨i, hi⟩ : ∃ i : Nat, r.2.1 = (i : Int) := ⟨r.2.1.toNat, by omega⟩
    have ea : x.2.1 + r.2.1 = ((s0 + i : Nat) : Int) := by omega
    have hlt : s0 + i < 7000 := by omega
    rw [ea, wNat (k := s0 + i) rfl (by omega), f2_p (by omega), k.2.2.2.2.2.2.1.get hlt]
    rw [ea, Int.toNat_natCast] at h
    have q2 := iand_b (bt (v0 14) (rB ρ) (s0 + i))
    exact k.int hl rfl (by omega) (by omega) (fun v' q => h _ q)
  · rw [if_neg g1, if_neg g2] at h
    exact k.int hl rfl (by decide) (by decide) (fun v' q => h _ q))
def clp (a c : Int) : Int := if 0 < (if c < a then c else a) then (if c < a then c else a) else 0
def ptR (x : Rw) (a b : Int) : Rw := if clp a x.2.2 < clp b x.2.2 then (x.1, x.2.1 + clp a x.2.2, clp b x.2.2 - clp a x.2.2) else (-1, 0, 0)
theorem clp_b {a c : Int} (h : 0 ≤ c) : 0 ≤ clp a c ∧ clp a c ≤ c := by
  unfold clp
  split
  · split <;> omega
  · omega
theorem rok.part {n : Nat} {H : Hp} {x : Rw} {a b : Int} (h : rok n H x) : rok n H (ptR x a b) := by
  unfold ptR
  split
  · rename_i c
    rcases h with ⟨q, e, h1, h2⟩ | ⟨s, m, e, h1, h2⟩ | ⟨w, hb, o, m, e, h1, h2⟩
    · rw [e] at c
      have g1 := clp_b (a := a) (c := 0) (by decide)
      have g2 := clp_b (a := b) (c := 0) (by decide)
      have c : clp a 0 < clp b 0 := c
      omega
    · rw [e] at c ⊢
      have c : clp a m < clp b m := c
      have g1 := clp_b (a := a) (c := (m : Int)) (by omega)
      have g2 := clp_b (a := b) (c := (m : Int)) (by omega)
      refine Or.inr (Or.inl ⟨s + (clp a m).toNat, (clp b m - clp a m).toNat, ?_, by omega, by omega⟩)
      have q1 : (s : Int) + clp a m = ((s + (clp a m).toNat : Nat) : Int) := by omega
      have q2 : clp b m - clp a m = (((clp b m - clp a m).toNat : Nat) : Int) := by omega
      exact Prod.ext rfl (Prod.ext q1 q2)
    · rw [e] at c ⊢
      have c : clp a m < clp b m := c
      have g1 := clp_b (a := a) (c := (m : Int)) (by omega)
      have g2 := clp_b (a := b) (c := (m : Int)) (by omega)
      refine Or.inr (Or.inr ⟨w, hb, o + (clp a m).toNat, (clp b m - clp a m).toNat, ?_, by omega, by omega⟩)
      have q1 : ((3000 + w.1 + o : Nat) : Int) + clp a m = ((3000 + w.1 + (o + (clp a m).toNat) : Nat) : Int) := by omega
      have q2 : clp b m - clp a m = (((clp b m - clp a m).toNat : Nat) : Int) := by omega
      exact Prod.ext rfl (Prod.ext q1 q2)
  · exact rok.int (by decide) (by decide)
theorem rd3 {v : Mem} {S : List Rw} {x y r : Rw} (h : VR v (S ++ [x, y, r])) : (f_139 (w32 ((((S ++ [x, y, r]).length : Nat) : Int) - 3)) v = x.1 ∧ f_140 (w32 ((((S ++ [x, y, r]).length : Nat) : Int) - 3)) v = x.2.1 ∧ f_141 (w32 ((((S ++ [x, y, r]).length : Nat) : Int) - 3)) v = x.2.2) ∧ f_140 (w32 ((((S ++ [x, y, r]).length : Nat) : Int) - 2)) v = y.2.1 ∧ f_140 (w32 ((((S ++ [x, y, r]).length : Nat) : Int) - 1)) v = r.2.1 :=
  ⟨rdT (T := [x, y, r]) (k := 0) (jj := 3) h (by show 0 < 3; decide) rfl, (rdT (T := [x, y, r]) (k := 1) (jj := 2) h (by show 1 < 3; decide) rfl).2.1, (rdT (T := [x, y, r]) (k := 2) (jj := 1) h (by show 2 < 3; decide) rfl).2.1⟩
theorem at_part {t : Int} {d : Nat} {v0 v : Mem} {Q : Int → Mem → Prop} {n z dp pc : Nat} {FB : List (Nat × Nat)} {S : List Rw} {x y r : Rw} {ρ : Rho} {f s : Int} (hn : n ≤ 3000) (hc : CM v0 n z dp pc FB (S ++ [x, y, r]) ρ v) (hl : S.length < 1440) (ha : actAt v0 pc 21 f s) (h : ∀ v', CM v0 n z dp (pc + 1) FB (S ++ [ptR x y.2.1 r.2.1]) (wH ρ (gc (S ++ [ptR x y.2.1 r.2.1]) z0 (rH ρ))) v' → Q 0 v') : RR t (d + 4) 56 [(2, 31)] v Q := ac_21 hc ha (fun v1 k => by
  obtain ⟨⟨e0, e1, e3⟩, e4, e5⟩ := rd3 k.1.1
  have hx : x ∈ S ++ [x, y, r] := List.mem_append.mpr (Or.inr List.mem_cons_self)
  obtain ⟨c, c1, c2, c3⟩ := (k.2.2.1 x hx).nat hn k.hz
  have hp := (k.2.2.1 x hx).part (a := y.2.1) (b := r.2.1)
  refine s_73 (d := d + 1) ?_
  rw [k.1.1.1, e0, e1, e3, e4, e5]
  have p1 : f_275 0 (f_276 y.2.1 x.2.2 v1) v1 = clp y.2.1 x.2.2 := rfl
  have p2 : f_275 0 (f_276 r.2.1 x.2.2 v1) v1 = clp r.2.1 x.2.2 := rfl
  rw [p1, p2]
  have g1 := clp_b (a := y.2.1) (c := x.2.2) (by omega)
  have g2 := clp_b (a := r.2.1) (c := x.2.2) (by omega)
  unfold ptR at h hp
  refine ⟨fun g => ?_, fun g => ?_⟩
  · rw [if_pos g] at h hp
    obtain ⟨s0, s1, s2⟩ := c3 (by omega)
    rw [w32_id (a := x.2.1 + clp y.2.1 x.2.2) (by omega) (by omega), w32_id (a := clp r.2.1 x.2.2 - clp y.2.1 x.2.2) (by omega) (by omega)]
    exact k.repl hl rfl hp (fun v' q => h _ q)
  · rw [if_neg g] at h hp
    exact k.repl hl rfl hp (fun v' q => h _ q))
theorem alk_congr {b b' : Nat → Int} {p q : Nat} : ∀ (m i : Nat), (∀ j, i ≤ j → j < i + m → b (p + j) = b' (p + j) ∧ b (q + j) = b' (q + j)) → alk b p q m i = alk b' p q m i := by
  intro m
  induction m with
  | zero => intro i h; rfl
  | succ m ih =>
    intro i h
    show (if b (p + i) = b (q + i) then alk b p q m (i + 1) else i) = (if b' (p + i) = b' (q + i) then alk b' p q m (i + 1) else i)
    obtain ⟨h1, h2⟩ := h i (Nat.le_refl _) (by omega)
    rw [h1, h2, ih (i + 1) (fun j a c => h j (by omega) (by omega))]
theorem alk_le {b : Nat → Int} {p q : Nat} : ∀ (m i : Nat), alk b p q m i ≤ i + m := by
  intro m
  induction m with
  | zero => intro i; exact Nat.le_refl _
  | succ m ih =>
    intro i
    show (if b (p + i) = b (q + i) then alk b p q m (i + 1) else i) ≤ i + (m + 1)
    have := ih (i + 1)
    split <;> omega
theorem alike_0 {t : Int} {d : Nat} {v : Mem} {Q : Int → Mem → Prop} {p q : Int} (hq : Q 0 v) : RR t (d + 1) 5 [(2, 13), (0, p), (0, q), (0, 0)] v Q := s_5 ⟨fun _ => hq, fun _ => ⟨fun _ => hq, fun _ => w_5_23 ⟨fun c => absurd c (by decide), fun _ => hq⟩⟩⟩
theorem al_rr {t : Int} {d : Nat} {v0 v : Mem} {Q : Int → Mem → Prop} {n z dp pc : Nat} {FB : List (Nat × Nat)} {S : List Rw} {l r : Rw} {ρ : Rho} {a1 a2 : Int} {fr m : Nat} (hn : n ≤ 3000) (k : CM v0 n z dp pc FB S ρ v) (hl : l ∈ S) (hr : r ∈ S) (e1 : f_139 a1 v = l.1 ∧ f_140 a1 v = l.2.1 ∧ f_141 a1 v = l.2.2) (e2 : f_139 a2 v = r.1 ∧ f_140 a2 v = r.2.1 ∧ f_141 a2 v = r.2.2) (h1 : ((fr + m : Nat) : Int) ≤ l.2.2) (h2 : ((m : Nat) : Int) ≤ r.2.2) (hq : Q ((alk (bt (v0 14) (rB ρ)) (l.2.1.toNat + fr) r.2.1.toNat m 0 : Nat) : Int) v) : RR t (d + 2) 70 [(2, 31), (0, a1), (0, a2), (0, (fr : Int)), (0, (m : Int))] v Q := by
  obtain ⟨c, c1, c2, c3⟩ := (k.2.2.1 l hl).nat hn k.hz
  obtain ⟨c', c1', c2', c3'⟩ := (k.2.2.1 r hr).nat hn k.hz
  refine s_70 (d := d) ?_
  rw [e1.2.1, e2.2.1]
  by_cases m0 : m = 0
  · subst m0
    refine alike_0 ?_
    rw [e1.1, k.m36 hl, e2.1, k.m36 hr]
    exact hq
  · obtain ⟨s, s1, s2⟩ := c3 (by omega)
    obtain ⟨s', s1', s2'⟩ := c3' (by omega)
    rw [s1, s1', Int.toNat_natCast, Int.toNat_natCast] at hq
    rw [s1, s1', wNat (k := s + fr) (by omega) (by omega)]
    refine alike_rr (by omega) (by omega) ?_
    rw [e1.1, k.m36 hl, e2.1, k.m36 hr, alk_congr (b' := bt (v0 14) (rB ρ)) m 0 (fun j j1 j2 => ⟨k.2.2.2.2.2.2.1.get (by omega), k.2.2.2.2.2.2.1.get (by omega)⟩)]
    exact hq
