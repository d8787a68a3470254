/-! The class's machine: compare and find. -/
def cm3 (a b : Int) : Int := if a < b then -1 else if a = b then 0 else 1
def ordT (b : Nat → Int) (l r : Rw) : Int := if alk b l.2.1.toNat r.2.1.toNat (min l.2.2.toNat r.2.2.toNat) 0 < min l.2.2.toNat r.2.2.toNat then cm3 (iand (b (l.2.1.toNat + alk b l.2.1.toNat r.2.1.toNat (min l.2.2.toNat r.2.2.toNat) 0)) 255) (iand (b (r.2.1.toNat + alk b l.2.1.toNat r.2.1.toNat (min l.2.2.toNat r.2.2.toNat) 0)) 255) else cm3 l.2.2 r.2.2
def hlds (k o : Int) : Int := if k = 60 then (if o < 0 then 1 else 0) else if k = 161 then (if o = 0 then 0 else 1) else if k = 189 then (if o = 0 then 1 else 0) else (if 0 < o then 0 else 1)
def cmR (b : Nat → Int) (k ty : Int) (l r : Rw) : Int := hlds k (if ty = 1 then ordT b l r else cm3 l.2.1 r.2.1)
theorem hlds_01 (k o : Int) : hlds k o = 0 ∨ hlds k o = 1 := by
  unfold hlds
  split
  · split
    · exact Or.inr rfl
    · exact Or.inl rfl
  · split
    · split
      · exact Or.inl rfl
      · exact Or.inr rfl
    · split
      · split
        · exact Or.inr rfl
        · exact Or.inl rfl
      · split
        · exact Or.inl rfl
        · exact Or.inr rfl
theorem hlds_rr {t : Int} {d : Nat} {v : Mem} {Q : Int → Mem → Prop} {k o : Int} (hq : Q (hlds k o) v) : RR t d 67 [(0, k), (0, o)] v Q := by
  unfold hlds at hq
  refine s_67 ⟨fun c => ⟨fun c2 => ?_, fun c2 => ?_⟩, fun c => ⟨fun c3 => ⟨fun c2 => ?_, fun c2 => ?_⟩, fun c3 => ⟨fun c4 => ⟨fun c2 => ?_, fun c2 => ?_⟩, fun c4 => ⟨fun c2 => ?_, fun c2 => ?_⟩⟩⟩⟩
  · rw [if_pos c, if_pos c2] at hq; exact hq
  · rw [if_pos c, if_neg c2] at hq; exact hq
  · rw [if_neg c, if_pos c3, if_pos c2] at hq; exact hq
  · rw [if_neg c, if_pos c3, if_neg c2] at hq; exact hq
  · rw [if_neg c, if_neg c3, if_pos c4, if_pos c2] at hq; exact hq
  · rw [if_neg c, if_neg c3, if_pos c4, if_neg c2] at hq; exact hq
  · rw [if_neg c, if_neg c3, if_neg c4, if_pos c2] at hq; exact hq
  · rw [if_neg c, if_neg c3, if_neg c4, if_neg c2] at hq; exact hq
theorem ord_rr {t : Int} {d : Nat} {v0 v : Mem} {Q : Int → Mem → Prop} {n z dp pc : Nat} {FB : List (Nat × Nat)} {S : List Rw} {l r : Rw} {ρ : Rho} {a1 a2 : Int} (hn : n ≤ 3000) (k : CM v0 n z dp pc FB S ρ v) (hl : l ∈ S) (hr : r ∈ S) (e1 : f_139 a1 v = l.1 ∧ f_140 a1 v = l.2.1 ∧ f_141 a1 v = l.2.2) (e2 : f_139 a2 v = r.1 ∧ f_140 a2 v = r.2.1 ∧ f_141 a2 v = r.2.2) (hq : Q (ordT (bt (v0 14) (rB ρ)) l r) v) : RR t (d + 3) 68 [(2, 31), (0, a1), (0, a2)] v Q := by
  obtain ⟨c, c1, c2, c3⟩ := (k.2.2.1 l hl).nat hn k.hz
  obtain ⟨c', c1', c2', c3'⟩ := (k.2.2.1 r hr).nat hn k.hz
  have em : f_276 l.2.2 r.2.2 v = ((min l.2.2.toNat r.2.2.toNat : Nat) : Int) := by
    unfold f_276
    rw [c1, c1', Int.toNat_natCast, Int.toNat_natCast]
    split <;> omega
  have hm : min l.2.2.toNat r.2.2.toNat ≤ c ∧ min l.2.2.toNat r.2.2.toNat ≤ c' := by
    rw [c1, c1', Int.toNat_natCast, Int.toNat_natCast]
    omega
  refine s_68 (d := d) ?_
  rw [e1.2.2, e2.2.2, em]
  unfold ordT at hq
  generalize hM : min l.2.2.toNat r.2.2.toNat = M at hq hm ⊢
  refine al_rr (fr := 0) (m := M) hn k hl hr e1 e2 (by omega) (by omega) ?_
  rw [Nat.add_zero]
  have hal := alk_le (b := bt (v0 14) (rB ρ)) (p := l.2.1.toNat) (q := r.2.1.toNat) M 0
  generalize hA : alk (bt (v0 14) (rB ρ)) l.2.1.toNat r.2.1.toNat M 0 = A at hq hal ⊢
  refine ⟨fun g => ?_, fun g => ?_⟩
  · rw [if_pos (by omega)] at hq
    obtain ⟨s, s1, s2⟩ := c3 (by omega)
    obtain ⟨s', s1', s2'⟩ := c3' (by omega)
    rw [s1, s1', Int.toNat_natCast, Int.toNat_natCast] at hq
    rw [e1.1, k.m36 hl, e2.1, k.m36 hr, e1.2.1, e2.2.1, s1, s1', wNat (k := s + A) (a := (s : Int) + (A : Int)) (by omega) (by omega), wNat (k := s' + A) (a := (s' : Int) + (A : Int)) (by omega) (by omega), f2_p (by omega), f2_p (by omega), k.2.2.2.2.2.2.1.get (a := s + A) (by omega), k.2.2.2.2.2.2.1.get (a := s' + A) (by omega)]
    exact hq
  · rw [if_neg (by omega)] at hq
    rw [e1.2.2, e2.2.2]
    exact hq
theorem at_cmp {t : Int} {d : Nat} {v0 v : Mem} {Q : Int → Mem → Prop} {n z dp pc : Nat} {FB : List (Nat × Nat)} {S : List Rw} {x r : Rw} {ρ : Rho} {f s : Int} (hn : n ≤ 3000) (hc : CM v0 n z dp pc FB (S ++ [x, r]) ρ v) (hl : S.length < 1440) (ha : actAt v0 pc 18 f s) (h : ∀ v', CM v0 n z dp (pc + 1) FB (S ++ [(-1, cmR (bt (v0 14) (rB ρ)) f s x r, 0)]) (wH ρ (gc (S ++ [(-1, cmR (bt (v0 14) (rB ρ)) f s x r, 0)]) z0 (rH ρ))) v' → Q 0 v') : RR t (d + 6) 56 [(2, 31)] v Q := ac_18 hc ha (fun v1 k => by
  obtain ⟨e1, e2⟩ := rd2 k.1.1
  have hx : x ∈ S ++ [x, r] := List.mem_append.mpr (Or.inr List.mem_cons_self)
  have hr : r ∈ S ++ [x, r] := List.mem_append.mpr (Or.inr (List.mem_cons_of_mem _ List.mem_cons_self))
  refine s_66 (d := d + 3) ?_
  rw [k.1.1.1]
  have fin : ∀ o : Int, o = (if s = 1 then ordT (bt (v0 14) (rB ρ)) x r else cm3 x.2.1 r.2.1) → RR t (d + 4) 67 [(0, f), (0, o)] v1 (fun x3 v3 => (x3 = 0 → RR t (d + 4) 146 [(2, 32), (0, 2), (0, 0)] v3 (fun _ v5 => Q 0 v5)) ∧ (¬ x3 = 0 → RR t (d + 4) 146 [(2, 32), (0, 2), (0, 1)] v3 (fun _ v6 => Q 0 v6))) := fun o ho => by
    unfold cmR at h
    rw [← ho] at h
    refine hlds_rr ⟨fun c => ?_, fun c => ?_⟩
    · rw [c] at h
      exact k.int hl rfl (by decide) (by decide) (fun v' q => h _ q)
    · rcases hlds_01 f o with e | e
      · exact absurd e c
      · rw [e] at h
        exact k.int hl rfl (by decide) (by decide) (fun v' q => h _ q)
  refine ⟨fun c => ?_, fun c => ?_⟩
  · rw [if_pos c] at fin
    refine ord_rr (d := d + 1) hn k hx hr e1 e2 ?_
    exact fin _ rfl
  · rw [if_neg c] at fin
    rw [e1.2.1, e2.2.1]
    exact fin _ rfl)
/-- the first place from i on -/
def fndB (b : Nat → Int) (p q m : Nat) : Nat → Nat → Int
  | 0, _ => -1
  | k + 1, i => if alk b (p + i) q m 0 = m then (i : Int) else fndB b p q m k (i + 1)
def fnR (b : Nat → Int) (x q : Rw) : Int := fndB b x.2.1.toNat q.2.1.toNat q.2.2.toNat (x.2.2.toNat + 1 - q.2.2.toNat) 0
theorem fndB_b {b : Nat → Int} {p q m : Nat} : ∀ (k i : Nat), -1 ≤ fndB b p q m k i ∧ fndB b p q m k i < ((i + k + 1 : Nat) : Int) := by
  intro k
  induction k with
  | zero => intro i; show -1 ≤ (-1 : Int) ∧ (-1 : Int) < _; omega
  | succ k ih =>
    intro i
    show -1 ≤ (if alk b (p + i) q m 0 = m then (i : Int) else fndB b p q m k (i + 1)) ∧ (if alk b (p + i) q m 0 = m then (i : Int) else fndB b p q m k (i + 1)) < _
    have := ih (i + 1)
    split <;> omega
theorem fnd_lp {t : Int} {d : Nat} {v0 v : Mem} {Q : Int → Mem → Prop} {n z dp pc : Nat} {FB : List (Nat × Nat)} {S : List Rw} {x q : Rw} {ρ : Rho} {a1 a2 : Int} {N M : Nat} (hn : n ≤ 3000) (k : CM v0 n z dp pc FB S ρ v) (hx : x ∈ S) (hq' : q ∈ S) (e1 : f_139 a1 v = q.1 ∧ f_140 a1 v = q.2.1 ∧ f_141 a1 v = q.2.2) (e2 : f_139 a2 v = x.1 ∧ f_140 a2 v = x.2.1 ∧ f_141 a2 v = x.2.2) (hN : x.2.2 = (N : Int)) (hM : q.2.2 = (M : Int)) (hb : N < 5000 ∧ M < 5000) : ∀ (j i : Nat), i + j = N + 1 - M → Q (fndB (bt (v0 14) (rB ρ)) x.2.1.toNat q.2.1.toNat M j i) v → LL t (d + 4) 75 12 [(2, 31), (0, a1), (0, a2), (0, (M : Int)), (0, (i : Int))] [] v Q := by
  intro j
  induction j with
  | zero =>
    intro i hi hq
    refine s_75_12 ?_
    rw [e2.2.2, hN, w32_id (a := (N : Int) - (M : Int)) (by omega) (by omega)]
    exact ⟨fun _ => hq, fun c => absurd (by omega) c⟩
  | succ j ih =>
    intro i hi hq
    have hq : Q (if alk (bt (v0 14) (rB ρ)) (x.2.1.toNat + i) q.2.1.toNat M 0 = M then (i : Int) else fndB (bt (v0 14) (rB ρ)) x.2.1.toNat q.2.1.toNat M j (i + 1)) v := hq
    refine s_75_12 ?_
    rw [e2.2.2, hN, w32_id (a := (N : Int) - (M : Int)) (by omega) (by omega)]
    refine ⟨fun c => absurd c (by omega), fun _ => al_rr (fr := i) (m := M) hn k hx hq' e2 e1 (by omega) (by omega) ⟨fun c => ?_, fun c => ?_⟩⟩
    · rw [if_pos (by omega)] at hq
      exact hq
    · rw [if_neg (by omega)] at hq
      rw [wNat (k := i + 1) (a := (i : Int) + 1) (by omega) (by omega)]
      exact ih (i + 1) (by omega) hq
theorem at_find {t : Int} {d : Nat} {v0 v : Mem} {Q : Int → Mem → Prop} {n z dp pc : Nat} {FB : List (Nat × Nat)} {S : List Rw} {x r : Rw} {ρ : Rho} {f s : Int} (hn : n ≤ 3000) (hc : CM v0 n z dp pc FB (S ++ [x, r]) ρ v) (hl : S.length < 1440) (ha : actAt v0 pc 23 f s) (h1 : 20000 < rN ρ + x.2.2.toNat → ∀ v', CE v0 z 4 0 (wN ρ 20000) v' → Q 0 v') (h2 : rN ρ + x.2.2.toNat ≤ 20000 → ∀ v', CM v0 n z dp (pc + 1) FB (S ++ [(-1, fnR (bt (v0 14) (rB ρ)) x r, 0)]) (wH (wN ρ (rN ρ + x.2.2.toNat)) (gc (S ++ [(-1, fnR (bt (v0 14) (rB ρ)) x r, 0)]) z0 (rH ρ))) v' → Q 0 v') : RR t (d + 7) 56 [(2, 31)] v Q := ac_23 hc ha (fun v1 k => by
  obtain ⟨e1, e2⟩ := rd2 k.1.1
  have hx : x ∈ S ++ [x, r] := List.mem_append.mpr (Or.inr List.mem_cons_self)
  have hr : r ∈ S ++ [x, r] := List.mem_append.mpr (Or.inr (List.mem_cons_of_mem _ List.mem_cons_self))
  obtain ⟨c, c1, c2, c3⟩ := (k.2.2.1 x hx).nat hn k.hz
  obtain ⟨c', c1', c2', c3'⟩ := (k.2.2.1 r hr).nat hn k.hz
  refine s_74 (d := d + 4) ?_
  rw [k.1.1.1, e1.2.2, c1]
  rw [c1, Int.toNat_natCast] at h1 h2
  by_cases g : rN ρ + c ≤ 20000
  · obtain ⟨q1, q2⟩ := m58_1 k g
    obtain ⟨w1, w2⟩ := rd2 q1.1.1
    refine ⟨fun _ => s_75 (d := d + 3) ?_, fun c => absurd q2 c⟩
    rw [w2.2.2, c1']
    have b := fndB_b (b := bt (v0 14) (rB ρ)) (p := x.2.1.toNat) (q := r.2.1.toNat) (m := c') (c + 1 - c') 0
    have ef : fnR (bt (v0 14) (rB ρ)) x r = fndB (bt (v0 14) (rB ρ)) x.2.1.toNat r.2.1.toNat c' (c + 1 - c') 0 := by
      unfold fnR
      rw [c1, c1', Int.toNat_natCast, Int.toNat_natCast]
    rw [ef] at h2
    refine fnd_lp (d := d + 1) hn q1 hx hr w2 w1 c1 c1' ⟨c2, c2'⟩ (c + 1 - c') 0 (by omega) ?_
    exact q1.int (a := fndB (bt (v0 14) (rB ρ)) x.2.1.toNat r.2.1.toNat c' (c + 1 - c') 0) hl rfl (by omega) (by omega) (fun v' q => h2 g _ q)
  · have q := m58_2 k (by omega : 20000 < rN ρ + c)
    refine ⟨fun e => ?_, fun _ => h1 (by omega) _ q⟩
    rw [q.2.1.2.2.2] at e
    exact absurd e (by decide))
