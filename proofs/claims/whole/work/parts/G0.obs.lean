/-! What a run left, told: free pieces, the longest of them, whose a place is; both sides. -/
def pcs (z : Nat) : Nat → Hp → Nat
  | lo, [] => if lo < z then 1 else 0
  | lo, b :: r => (if lo < b.1 then 1 else 0) + pcs z (b.1 + b.2.1) r
def lng (z : Nat) : Nat → Hp → Nat
  | lo, [] => z - lo
  | lo, b :: r => max (b.1 - lo) (lng z (b.1 + b.2.1) r)
def own (k : Nat) : Hp → Int
  | [] => -1
  | b :: r => if k < b.1 then -1 else if k < b.1 + b.2.1 then ((b.2.2 : Nat) : Int) else own k r
theorem mx_275 {a k : Nat} {v : Mem} : f_275 (a : Int) (k : Int) v = ((max a k : Nat) : Int) := by
  unfold f_275
  split <;> omega
theorem pcs_lp {t : Int} {d : Nat} {v : Mem} {Q : Int → Mem → Prop} {z : Nat} (hz : z ≤ 4000) (e6 : v 15 6 = (z : Int)) : ∀ (H : Hp) (prev lo i a : Nat), hok z lo H → CHN v prev H → 2 * i ≤ lo → a ≤ i → Q ((a + pcs z lo H : Nat) : Int) v → LL t (d + 1) 46 16 [(2, 15), (0, (a : Int)), (0, (lo : Int)), (0, v 16 prev), (0, (i : Int))] [] v Q := by
  intro H
  induction H with
  | nil =>
    intro prev lo i a h hc hi ha hq
    have h : lo ≤ z := h
    have hq : Q ((a + (if lo < z then 1 else 0) : Nat) : Int) v := hq
    rw [hc.1]
    refine s_46_16 ⟨fun _ => ⟨fun c => absurd c (by decide), fun _ => ⟨fun c => absurd c (by decide), fun _ => ⟨fun c => ?_, fun c => ?_⟩⟩⟩, fun c => absurd (by omega) c⟩
    · rw [e6] at c
      rw [if_pos (by omega)] at hq
      rw [wNat (k := a + 1) (a := (a : Int) + 1) (by omega) (by omega)]
      exact hq
    · rw [e6] at c
      rw [if_neg (by omega)] at hq
      exact hq
  | cons b r ih =>
    intro prev lo i a h hc hi ha hq
    obtain ⟨h1, h2, h3⟩ := h
    have hb : b.1 + b.2.1 ≤ z := hok_le r _ h3
    obtain ⟨c1, c2, c3, c4, c5⟩ := hc
    have hq : Q ((a + ((if lo < b.1 then 1 else 0) + pcs z (b.1 + b.2.1) r) : Nat) : Int) v := hq
    rw [c1]
    refine s_46_16 ⟨fun _ => ⟨fun c => absurd c (by omega), fun _ => ⟨fun _ => ?_, fun c => absurd (by omega) c⟩⟩, fun c => absurd (by omega) c⟩
    rw [Int.toNat_natCast, c3, wNat (k := b.1 + b.2.1) (a := ((b.1 : Nat) : Int) + ((b.2.1 : Nat) : Int)) (by omega) (by omega), wNat (k := a + 1) (a := (a : Int) + 1) (by omega) (by omega), wNat (k := i + 1) (a := (i : Int) + 1) (by omega) (by omega)]
    refine ⟨fun c => ?_, fun c => ?_⟩
    · rw [if_pos (by omega)] at hq
      refine ih b.1 (b.1 + b.2.1) (i + 1) (a + 1) h3 c5 (by omega) (by omega) ?_
      rw [Nat.add_assoc]
      exact hq
    · rw [if_neg (by omega), Nat.zero_add] at hq
      exact ih b.1 (b.1 + b.2.1) (i + 1) a h3 c5 (by omega) (by omega) hq
theorem lng_lp {t : Int} {d : Nat} {v : Mem} {Q : Int → Mem → Prop} {z : Nat} (hz : z ≤ 4000) (e6 : v 15 6 = (z : Int)) : ∀ (H : Hp) (prev lo i a : Nat), hok z lo H → CHN v prev H → 2 * i ≤ lo → Q ((max a (lng z lo H) : Nat) : Int) v → LL t (d + 1) 47 16 [(2, 15), (0, (a : Int)), (0, (lo : Int)), (0, v 16 prev), (0, (i : Int))] [] v Q := by
  intro H
  induction H with
  | nil =>
    intro prev lo i a h hc hi hq
    have h : lo ≤ z := h
    have hq : Q ((max a (z - lo) : Nat) : Int) v := hq
    rw [hc.1]
    refine s_47_16 ⟨fun _ => ⟨fun c => absurd c (by decide), fun _ => ⟨fun c => absurd c (by decide), fun _ => ?_⟩⟩, fun c => absurd (by omega) c⟩
    rw [e6, wNat (k := z - lo) (a := (z : Int) - (lo : Int)) (by omega) (by omega), mx_275]
    exact hq
  | cons b r ih =>
    intro prev lo i a h hc hi hq
    obtain ⟨h1, h2, h3⟩ := h
    have hb : b.1 + b.2.1 ≤ z := hok_le r _ h3
    obtain ⟨c1, c2, c3, c4, c5⟩ := hc
    have hq : Q ((max a (max (b.1 - lo) (lng z (b.1 + b.2.1) r)) : Nat) : Int) v := hq
    rw [c1]
    refine s_47_16 ⟨fun _ => ⟨fun c => absurd c (by omega), fun _ => ⟨fun _ => ?_, fun c => absurd (by omega) c⟩⟩, fun c => absurd (by omega) c⟩
    rw [Int.toNat_natCast, c3, wNat (k := b.1 + b.2.1) (a := ((b.1 : Nat) : Int) + ((b.2.1 : Nat) : Int)) (by omega) (by omega), wNat (k := i + 1) (a := (i : Int) + 1) (by omega) (by omega), wNat (k := b.1 - lo) (a := ((b.1 : Nat) : Int) - (lo : Int)) (by omega) (by omega), mx_275]
    refine ih b.1 (b.1 + b.2.1) (i + 1) (max a (b.1 - lo)) h3 c5 (by omega) ?_
    rw [Nat.max_assoc]
    exact hq
theorem own_lp {t : Int} {d : Nat} {v : Mem} {Q : Int → Mem → Prop} {z k : Nat} (hz : z ≤ 4000) : ∀ (H : Hp) (prev lo i : Nat), hok z lo H → CHN v prev H → 2 * i ≤ lo → Q (own k H) v → LL t (d + 1) 48 11 [(2, 15), (0, (k : Int)), (0, v 16 prev), (0, (i : Int))] [] v Q := by
  intro H
  induction H with
  | nil =>
    intro prev lo i h hc hi hq
    have h : lo ≤ z := h
    rw [hc.1]
    exact s_48_11 ⟨fun _ => ⟨fun c => absurd c (by decide), fun _ => ⟨fun c => absurd c (by decide), fun _ => hq⟩⟩, fun c => absurd (by omega) c⟩
  | cons b r ih =>
    intro prev lo i h hc hi hq
    obtain ⟨h1, h2, h3⟩ := h
    have hb : b.1 + b.2.1 ≤ z := hok_le r _ h3
    obtain ⟨c1, c2, c3, c4, c5⟩ := hc
    have hq : Q (if k < b.1 then -1 else if k < b.1 + b.2.1 then ((b.2.2 : Nat) : Int) else own k r) v := hq
    rw [c1]
    refine s_48_11 ⟨fun _ => ⟨fun c => absurd c (by omega), fun _ => ⟨fun _ => ⟨fun c => ?_, fun c => ?_⟩, fun c => absurd (by omega) c⟩⟩, fun c => absurd (by omega) c⟩
    · rw [if_pos (by omega)] at hq
      exact hq
    · rw [if_neg (by omega)] at hq
      rw [Int.toNat_natCast, c3, c4, wNat (k := b.1 + b.2.1) (a := ((b.1 : Nat) : Int) + ((b.2.1 : Nat) : Int)) (by omega) (by omega), wNat (k := i + 1) (a := (i : Int) + 1) (by omega) (by omega)]
      refine ⟨fun c' => ?_, fun c' => ?_⟩
      · rw [if_pos (by omega)] at hq
        exact hq
      · rw [if_neg (by omega)] at hq
        exact ih b.1 (b.1 + b.2.1) (i + 1) h3 c5 (by omega) hq
/-- THE CLASS tells pieces, longest, owner -/
theorem pieces_c {t : Int} {d : Nat} {v : Mem} {Q : Int → Mem → Prop} {z k mo : Nat} {H : Hp} {rc : Nat → Nat} (h : HC v z H k mo rc) (hq : Q ((pcs z 0 H : Nat) : Int) v) : RR t (d + 1) 46 [(2, 15)] v Q :=
  s_46 (pcs_lp h.1.1 h.2.1.1 H 4000 0 0 0 h.1.2.1 h.1.2.2 (Nat.le_refl _) (Nat.le_refl _) (by rw [Nat.zero_add]; exact hq))
theorem longest_c {t : Int} {d : Nat} {v : Mem} {Q : Int → Mem → Prop} {z k mo : Nat} {H : Hp} {rc : Nat → Nat} (h : HC v z H k mo rc) (hq : Q ((lng z 0 H : Nat) : Int) v) : RR t (d + 1) 47 [(2, 15)] v Q :=
  s_47 (lng_lp h.1.1 h.2.1.1 H 4000 0 0 0 h.1.2.1 h.1.2.2 (Nat.le_refl _) (by rw [Nat.zero_max]; exact hq))
theorem owner_c {t : Int} {d : Nat} {v : Mem} {Q : Int → Mem → Prop} {z k mo j : Nat} {H : Hp} {rc : Nat → Nat} (h : HC v z H k mo rc) (hq : Q (own j H) v) : RR t (d + 1) 48 [(2, 15), (0, (j : Int))] v Q :=
  s_48 (own_lp h.1.1 H 4000 0 0 h.1.2.1 h.1.2.2 (Nat.le_refl _) hq)
/-! the reference: over all places -/
theorem fr_lp {t : Int} {d : Nat} {v : Mem} {Q : Int → Mem → Prop} {z lo e a x : Nat} {l1 : Int} (hz : z ≤ 4000) (e65 : v 38 65 = (z : Int)) (he : e ≤ z) (ha : a ≤ 4000) (hx : x ≤ 4000) (hf : ∀ p, lo ≤ p → p < e → v 78 p < 0) (hq : LL t (d + 1) 258 10 [(2, 38), (0, l1), (0, ((a + (if lo < e then 1 else 0) : Nat) : Int)), (0, ((max x (e - lo) : Nat) : Int)), (0, ((e - lo : Nat) : Int)), (0, (e : Int))] [] v Q) : ∀ (m p : Nat), p + m = e → lo ≤ p → LL t (d + 1) 258 10 [(2, 38), (0, l1), (0, ((a + (if lo < p then 1 else 0) : Nat) : Int)), (0, ((max x (p - lo) : Nat) : Int)), (0, ((p - lo : Nat) : Int)), (0, (p : Int))] [] v Q := by
  intro m
  induction m with
  | zero =>
    intro p hp hl
    have hp : p = e := by omega
    subst hp
    exact hq
  | succ m ih =>
    intro p hp hl
    have hf' := hf p hl (by omega)
    have nx := ih (p + 1) (by omega) (by omega)
    refine w_258_10 ⟨fun _ => ?_, fun c => absurd (by rw [e65]; omega) c⟩
    rw [Int.toNat_natCast, wNat (k := p + 1 - lo) (a := ((p - lo : Nat) : Int) + 1) (by omega) (by omega), wNat (k := p + 1) (a := (p : Int) + 1) (by omega) (by omega)]
    refine ⟨⟨by omega, by omega⟩, fun _ => ?_, fun c => absurd hf' c⟩
    have emx : max (max x (p - lo)) (p + 1 - lo) = max x (p + 1 - lo) := by omega
    by_cases c : p = lo
    · refine ⟨fun _ => p_275 ?_, fun c' => absurd (by omega) c'⟩
      rw [mx_275, emx, if_neg (show ¬ lo < p by omega), wNat (k := a + 1) (a := ((a + 0 : Nat) : Int) + 1) (by omega) (by omega)]
      rw [if_pos (show lo < p + 1 by omega)] at nx
      exact nx
    · refine ⟨fun c' => absurd c' (by omega), fun _ => p_275 ?_⟩
      rw [mx_275, emx, if_pos (show lo < p by omega), wNat (k := a + 1) (a := ((a + 1 : Nat) : Int) + 0) (by omega) (by omega)]
      rw [if_pos (show lo < p + 1 by omega)] at nx
      exact nx
theorem bl_lp {t : Int} {d : Nat} {v : Mem} {Q : Int → Mem → Prop} {z b e a x : Nat} {l1 : Int} (hz : z ≤ 4000) (e65 : v 38 65 = (z : Int)) (he : e ≤ z) (ha : a ≤ 4001) (hf : ∀ p, b ≤ p → p < e → ¬ v 78 p < 0) (hq : LL t (d + 1) 258 10 [(2, 38), (0, l1), (0, (a : Int)), (0, (x : Int)), (0, 0), (0, (e : Int))] [] v Q) : ∀ (m p : Nat) (r : Int), p + m = e → b ≤ p → (m = 0 → r = 0) → LL t (d + 1) 258 10 [(2, 38), (0, l1), (0, (a : Int)), (0, (x : Int)), (0, r), (0, (p : Int))] [] v Q := by
  intro m
  induction m with
  | zero =>
    intro p r hp hl hr
    have hp : p = e := by omega
    subst hp
    rw [hr rfl]
    exact hq
  | succ m ih =>
    intro p r hp hl _
    have hf' := hf p hl (by omega)
    have nx := ih (p + 1) 0 (by omega) (by omega) (fun _ => rfl)
    refine w_258_10 ⟨fun _ => ⟨⟨by omega, by omega⟩, fun c => absurd (by rw [Int.toNat_natCast] at c; exact c) hf', fun _ => ⟨fun c => absurd c (by decide), fun _ => p_275 ?_⟩⟩, fun c => absurd (by rw [e65]; omega) c⟩
    have e0 : f_275 (x : Int) 0 v = (x : Int) := by
      unfold f_275
      rw [if_neg (by omega)]
    rw [e0, wNat (k := p + 1) (a := (p : Int) + 1) (by omega) (by omega), wNat (k := a) (a := (a : Int) + 0) (by omega) (by omega)]
    exact nx
theorem fre_lp {t : Int} {d : Nat} {v : Mem} {Q : Int → Mem → Prop} {z : Nat} {l1 : Int} (hz : z ≤ 4000) (e65 : v 38 65 = (z : Int)) : ∀ (H : Hp) (lo a x : Nat), hok z lo H → a ≤ lo → x ≤ lo → (∀ p, lo ≤ p → p < z → (∀ b ∈ H, ¬ (b.1 ≤ p ∧ p < b.1 + b.2.1)) → v 78 p < 0) → (∀ b ∈ H, ∀ p, b.1 ≤ p → p < b.1 + b.2.1 → ¬ v 78 p < 0) → (l1 = 0 → Q ((max x (lng z lo H) : Nat) : Int) v) → (¬ l1 = 0 → Q ((a + pcs z lo H : Nat) : Int) v) → LL t (d + 1) 258 10 [(2, 38), (0, l1), (0, (a : Int)), (0, (x : Int)), (0, 0), (0, (lo : Int))] [] v Q := by
  intro H
  induction H with
  | nil =>
    intro lo a x h ha hx hf hb q1 q2
    have h : lo ≤ z := h
    have q1 : l1 = 0 → Q ((max x (z - lo) : Nat) : Int) v := q1
    have q2 : ¬ l1 = 0 → Q ((a + (if lo < z then 1 else 0) : Nat) : Int) v := q2
    have key := fr_lp (t := t) (d := d) (Q := Q) (lo := lo) (e := z) (a := a) (x := x) (l1 := l1) hz e65 (Nat.le_refl _) (by omega) (by omega) (fun p p1 p2 => hf p p1 p2 (fun b hb' => absurd hb' (List.not_mem_nil))) (w_258_10 ⟨fun c => absurd c (by rw [e65]; omega), fun _ => ⟨q1, q2⟩⟩) (z - lo) lo (by omega) (Nat.le_refl _)
    rw [if_neg (show ¬ lo < lo by omega), Nat.add_zero, Nat.sub_self, Nat.max_zero] at key
    exact key
  | cons b r ih =>
    intro lo a x h ha hx hf hb q1 q2
    obtain ⟨h1, h2, h3⟩ := h
    have hbz : b.1 + b.2.1 ≤ z := hok_le r _ h3
    have hlo : ∀ c ∈ r, b.1 + b.2.1 ≤ c.1 := fun c hc => (hok_in r _ h3 hc).1
    have q1 : l1 = 0 → Q ((max x (max (b.1 - lo) (lng z (b.1 + b.2.1) r)) : Nat) : Int) v := q1
    have q2 : ¬ l1 = 0 → Q ((a + ((if lo < b.1 then 1 else 0) + pcs z (b.1 + b.2.1) r) : Nat) : Int) v := q2
    have hi : (if lo < b.1 then 1 else 0 : Nat) ≤ b.1 - lo := by split <;> omega
    have k3 := ih (b.1 + b.2.1) (a + (if lo < b.1 then 1 else 0)) (max x (b.1 - lo)) h3 (by omega) (by omega) (fun p p1 p2 p3 => hf p (by omega) p2 (fun c hc => by
      rcases List.mem_cons.mp hc with e | e
      · subst e; omega
      · exact p3 c e)) (fun c hc => hb c (List.mem_cons_of_mem _ hc)) (fun e => by rw [Nat.max_assoc]; exact q1 e) (fun e => by rw [Nat.add_assoc]; exact q2 e)
    have k2 := bl_lp (b := b.1) (e := b.1 + b.2.1) hz e65 hbz (by omega) (fun p p1 p2 => hb b (List.mem_cons_self ..) p p1 p2) k3 b.2.1 b.1 ((b.1 - lo : Nat) : Int) rfl (Nat.le_refl _) (fun e => absurd e (by omega))
    have key := fr_lp (t := t) (d := d) (Q := Q) (lo := lo) (e := b.1) (a := a) (x := x) (l1 := l1) hz e65 (by omega) (by omega) (by omega) (fun p p1 p2 => hf p p1 (by omega) (fun c hc => by
      rcases List.mem_cons.mp hc with e | e
      · subst e; omega
      · have := hlo c e; omega)) k2 (b.1 - lo) lo (by omega) (Nat.le_refl _)
    rw [if_neg (show ¬ lo < lo by omega), Nat.add_zero, Nat.sub_self, Nat.max_zero] at key
    exact key
/-- THE REFERENCE tells pieces (1) and the longest (0) -/
theorem free_r {t : Int} {d : Nat} {v : Mem} {Q : Int → Mem → Prop} {z : Nat} {J : Jb} {l1 : Int} (h : RHb v z J) (q1 : l1 = 0 → Q ((lng z 0 (blk J) : Nat) : Int) v) (q2 : ¬ l1 = 0 → Q ((pcs z 0 (blk J) : Nat) : Int) v) : RR t (d + 1) 258 [(2, 38), (0, l1)] v Q := by
  obtain ⟨⟨a1, a2, a3, a4⟩, a5, a6, a7, a8, a9⟩ := h
  refine w_258 (fre_lp a3 a2 (blk J) 0 0 0 a1 (Nat.le_refl _) (Nat.le_refl _) (fun p _ p2 p3 => ?_) (fun b hb p p1 p2 => ?_) (fun e => by rw [Nat.zero_max]; exact q1 e) (fun e => by rw [Nat.zero_add]; exact q2 e))
  · rw [a9 p (by omega) (fun j hj => p3 j.2 (List.mem_map.mpr ⟨j, hj, rfl⟩))]
    decide
  · obtain ⟨j, hj, e⟩ := List.mem_map.mp hb
    subst e
    rw [a8 j hj p p1 p2]
    omega
theorem own_in {z k : Nat} : ∀ (H : Hp) (lo : Nat) (b : Nat × Nat × Nat), hok z lo H → b ∈ H → b.1 ≤ k → k < b.1 + b.2.1 → own k H = ((b.2.2 : Nat) : Int) := by
  intro H
  induction H with
  | nil => intro lo b _ hb; cases hb
  | cons c r ih =>
    intro lo b h hb k1 k2
    obtain ⟨h1, h2, h3⟩ := h
    show (if k < c.1 then -1 else if k < c.1 + c.2.1 then ((c.2.2 : Nat) : Int) else own k r) = _
    rcases List.mem_cons.mp hb with e | e
    · subst e
      rw [if_neg (by omega), if_pos k2]
    · have := (hok_in r _ h3 e).1
      rw [if_neg (by omega), if_neg (by omega)]
      exact ih _ b h3 e k1 k2
theorem own_no {k : Nat} : ∀ (H : Hp), (∀ b ∈ H, ¬ (b.1 ≤ k ∧ k < b.1 + b.2.1)) → own k H = -1 := by
  intro H
  induction H with
  | nil => intro _; rfl
  | cons c r ih =>
    intro h
    have hc := h c (List.mem_cons_self ..)
    show (if k < c.1 then -1 else if k < c.1 + c.2.1 then ((c.2.2 : Nat) : Int) else own k r) = _
    by_cases g : k < c.1
    · rw [if_pos g]
    · rw [if_neg g, if_neg (by omega)]
      exact ih (fun b hb => h b (List.mem_cons_of_mem _ hb))
/-- THE REFERENCE tells whose a place is -/
theorem own_r {v : Mem} {z k : Nat} {J : Jb} (h : RHb v z J) (hk : k < z) : (v 78 k < 0 ∧ own k (blk J) = -1) ∨ (0 ≤ v 78 k ∧ v 78 k < 2001 ∧ v 75 (v 78 k).toNat = own k (blk J)) := by
  obtain ⟨⟨a1, a2, a3, a4⟩, ⟨hg, g1, g2, g3⟩, a6, a7, a8, a9⟩ := h
  by_cases c : ∃ j ∈ J, j.2.1 ≤ k ∧ k < j.2.1 + j.2.2.1
  · obtain ⟨j, hj, c1, c2⟩ := c
    have hl := g3 j hj
    rw [a8 j hj k c1 c2, own_in (blk J) 0 j.2 a1 (List.mem_map.mpr ⟨j, hj, rfl⟩) c1 c2, Int.toNat_natCast]
    exact Or.inr ⟨by omega, by omega, (a6 j hj).2.2⟩
  · have hn : ∀ j ∈ J, ¬ (j.2.1 ≤ k ∧ k < j.2.1 + j.2.2.1) := fun j hj g => c ⟨j, hj, g⟩
    refine Or.inl ⟨by rw [a9 k (by omega) hn]; decide, own_no (blk J) (fun b hb => ?_)⟩
    obtain ⟨j, hj, e⟩ := List.mem_map.mp hb
    subst e
    exact hn j hj
