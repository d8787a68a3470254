/-! The decimal digits of an int: purely, as the class writes them, as the reference does. -/
def nd (w : Nat) : Nat := if w < 10 then 1 else if w < 100 then 2 else if w < 1000 then 3 else if w < 10000 then 4 else if w < 100000 then 5 else if w < 1000000 then 6 else if w < 10000000 then 7 else if w < 100000000 then 8 else if w < 1000000000 then 9 else 10
theorem nd_spec {w : Nat} (h : w < 10000000000) : w < 10 ^ nd w ∧ (nd w = 1 ∨ 10 ^ (nd w - 1) ≤ w) ∧ 1 ≤ nd w ∧ nd w ≤ 10 := by
  by_cases h1 : w < 10
  · have e : nd w = 1 := by unfold nd; rw [if_pos h1]
    rw [e]; exact ⟨by rw [show (10 : Nat) ^ 1 = 10 from rfl]; exact h1, Or.inl rfl, by omega, by omega⟩
  by_cases h2 : w < 100
  · have e : nd w = 2 := by unfold nd; rw [if_neg h1, if_pos h2]
    rw [e]; exact ⟨by rw [show (10 : Nat) ^ 2 = 100 from rfl]; exact h2, Or.inr (by show 10 ^ 1 ≤ w; rw [show (10 : Nat) ^ 1 = 10 from rfl]; omega), by omega, by omega⟩
  by_cases h3 : w < 1000
  · have e : nd w = 3 := by unfold nd; rw [if_neg h1, if_neg h2, if_pos h3]
    rw [e]; exact ⟨by rw [show (10 : Nat) ^ 3 = 1000 from rfl]; exact h3, Or.inr (by show 10 ^ 2 ≤ w; rw [show (10 : Nat) ^ 2 = 100 from rfl]; omega), by omega, by omega⟩
  by_cases h4 : w < 10000
  · have e : nd w = 4 := by unfold nd; rw [if_neg h1, if_neg h2, if_neg h3, if_pos h4]
    rw [e]; exact ⟨by rw [show (10 : Nat) ^ 4 = 10000 from rfl]; exact h4, Or.inr (by show 10 ^ 3 ≤ w; rw [show (10 : Nat) ^ 3 = 1000 from rfl]; omega), by omega, by omega⟩
  by_cases h5 : w < 100000
  · have e : nd w = 5 := by unfold nd; rw [if_neg h1, if_neg h2, if_neg h3, if_neg h4, if_pos h5]
    rw [e]; exact ⟨by rw [show (10 : Nat) ^ 5 = 100000 from rfl]; exact h5, Or.inr (by show 10 ^ 4 ≤ w; rw [show (10 : Nat) ^ 4 = 10000 from rfl]; omega), by omega, by omega⟩
  by_cases h6 : w < 1000000
  · have e : nd w = 6 := by unfold nd; rw [if_neg h1, if_neg h2, if_neg h3, if_neg h4, if_neg h5, if_pos h6]
    rw [e]; exact ⟨by rw [show (10 : Nat) ^ 6 = 1000000 from rfl]; exact h6, Or.inr (by show 10 ^ 5 ≤ w; rw [show (10 : Nat) ^ 5 = 100000 from rfl]; omega), by omega, by omega⟩
  by_cases h7 : w < 10000000
  · have e : nd w = 7 := by unfold nd; rw [if_neg h1, if_neg h2, if_neg h3, if_neg h4, if_neg h5, if_neg h6, if_pos h7]
    rw [e]; exact ⟨by rw [show (10 : Nat) ^ 7 = 10000000 from rfl]; exact h7, Or.inr (by show 10 ^ 6 ≤ w; rw [show (10 : Nat) ^ 6 = 1000000 from rfl]; omega), by omega, by omega⟩
  by_cases h8 : w < 100000000
  · have e : nd w = 8 := by unfold nd; rw [if_neg h1, if_neg h2, if_neg h3, if_neg h4, if_neg h5, if_neg h6, if_neg h7, if_pos h8]
    rw [e]; exact ⟨by rw [show (10 : Nat) ^ 8 = 100000000 from rfl]; exact h8, Or.inr (by show 10 ^ 7 ≤ w; rw [show (10 : Nat) ^ 7 = 10000000 from rfl]; omega), by omega, by omega⟩
  by_cases h9 : w < 1000000000
  · have e : nd w = 9 := by unfold nd; rw [if_neg h1, if_neg h2, if_neg h3, if_neg h4, if_neg h5, if_neg h6, if_neg h7, if_neg h8, if_pos h9]
    rw [e]; exact ⟨by rw [show (10 : Nat) ^ 9 = 1000000000 from rfl]; exact h9, Or.inr (by show 10 ^ 8 ≤ w; rw [show (10 : Nat) ^ 8 = 100000000 from rfl]; omega), by omega, by omega⟩
  have e : nd w = 10 := by unfold nd; rw [if_neg h1, if_neg h2, if_neg h3, if_neg h4, if_neg h5, if_neg h6, if_neg h7, if_neg h8, if_neg h9]
  rw [e]; exact ⟨by rw [show (10 : Nat) ^ 10 = 10000000000 from rfl]; exact h, Or.inr (by show 10 ^ 9 ≤ w; rw [show (10 : Nat) ^ 9 = 1000000000 from rfl]; omega), by omega, by omega⟩
def dcl (n : Int) : Nat := nd n.natAbs + (if n < 0 then 1 else 0)
def dch (n : Int) (k : Nat) : Int := if n < 0 ∧ k = 0 then 45 else ((48 + n.natAbs / 10 ^ (dcl n - 1 - k) % 10 : Nat) : Int)
theorem dcl_b {n : Int} (h1 : -2147483648 ≤ n) (h2 : n < 2147483648) : 1 ≤ dcl n ∧ dcl n ≤ 11 := by
  have := nd_spec (w := n.natAbs) (by omega)
  unfold dcl
  split <;> omega
theorem p10 (i : Nat) : (10 : Nat) ^ (i + 1) = 10 * 10 ^ i := by rw [Nat.pow_succ, Nat.mul_comm]
theorem p10_pos (i : Nat) : 1 ≤ (10 : Nat) ^ i := Nat.pow_pos (by decide)
theorem p10_le {i j : Nat} (h : i ≤ j) : (10 : Nat) ^ i ≤ 10 ^ j := Nat.pow_le_pow_right (by decide) h
theorem div10 (w i : Nat) : w / 10 ^ i / 10 = w / 10 ^ (i + 1) := by rw [Nat.div_div_eq_div_mul, Nat.pow_succ]
theorem m3_p {v : Mem} {a : Nat} {x : Int} (ha : a < 9011) : m_3 (a : Int) x v = up v 14 a (w8 (w8 x)) := by
  unfold m_3
  rw [if_neg (by omega), if_pos (by omega), Int.toNat_natCast]
theorem dg8 {r : Nat} : w8 (w8 (w32 (48 + w32 (Int.tmod (r : Int) 10)))) = ((48 + r % 10 : Nat) : Int) := by
  have e : Int.tmod (r : Int) 10 = ((r % 10 : Nat) : Int) := rfl
  have hr : r % 10 < 10 := Nat.mod_lt _ (by decide)
  rw [e, w32_id (a := ((r % 10 : Nat) : Int)) (by omega) (by omega), w32_id (a := 48 + ((r % 10 : Nat) : Int)) (by omega) (by omega), w8_id (a := 48 + ((r % 10 : Nat) : Int)) (by omega) (by omega), w8_id (by omega) (by omega)]
  omega
theorem dg8' {r : Nat} : w8 (w8 (w32 (w64 (48 + Int.tmod (r : Int) 10)))) = ((48 + r % 10 : Nat) : Int) := by
  have e : Int.tmod (r : Int) 10 = ((r % 10 : Nat) : Int) := rfl
  have hr : r % 10 < 10 := Nat.mod_lt _ (by decide)
  rw [e, w64_id (a := 48 + ((r % 10 : Nat) : Int)) (by omega) (by omega), w32_id (a := 48 + ((r % 10 : Nat) : Int)) (by omega) (by omega), w8_id (a := 48 + ((r % 10 : Nat) : Int)) (by omega) (by omega), w8_id (by omega) (by omega)]
  omega
/-- the memory behind the class's digits -/
def WDf (v v' : Mem) : Prop := (∀ x, x ≠ 14 → v' x = v x) ∧ ∀ j, (j < 7000 ∨ 7011 ≤ j) → v' 14 j = v 14 j
theorem WDf.put {v0 v : Mem} {a : Nat} {x : Int} (h : WDf v0 v) (h1 : 7000 ≤ a) (h2 : a < 7011) : WDf v0 (up v 14 a x) := ⟨fun c hc => by rw [up_ne hc]; exact h.1 c hc, fun j hj => by rw [up_nk (by omega)]; exact h.2 j hj⟩
theorem wd_end {v0 v : Mem} {Q : Int → Mem → Prop} {n : Int} {i : Nat} (hi : i + 1 = nd n.natAbs) (hb : i < 10) (hf : WDf v0 v) (hd : ∀ j, j ≤ i → v 14 (7010 - j) = ((48 + n.natAbs / 10 ^ j % 10 : Nat) : Int)) (hq : ∀ v', WDf v0 v' → (∀ k, k < dcl n → v' 14 (7011 - dcl n + k) = dch n k) → Q ((7011 - dcl n : Nat) : Int) v') : (n < 0 → Q (w32 (((7010 - i : Nat) : Int) + (-1))) (m_3 (w32 (((7010 - i : Nat) : Int) + (-1))) 45 v)) ∧ (¬ n < 0 → Q ((7010 - i : Nat) : Int) v) := by
  refine ⟨fun c => ?_, fun c => ?_⟩
  · have hl : dcl n = i + 2 := by unfold dcl; rw [if_pos c]; omega
    rw [wNat (k := 7009 - i) (by omega) (by omega), m3_p (by omega)]
    have e : 7011 - dcl n = 7009 - i := by omega
    rw [e] at hq
    refine hq _ (hf.put (by omega) (by omega)) (fun k hk => ?_)
    unfold dch
    by_cases k0 : k = 0
    · rw [if_pos ⟨c, k0⟩, k0, Nat.add_zero, up_k]
      rfl
    · rw [if_neg (fun x => k0 x.2), up_nk (by omega), show 7009 - i + k = 7010 - (i + 1 - k) from by omega, hd _ (by omega), show dcl n - 1 - k = i + 1 - k from by omega]
  · have hl : dcl n = i + 1 := by unfold dcl; rw [if_neg c]; omega
    have e : 7011 - dcl n = 7010 - i := by omega
    rw [e] at hq
    refine hq _ hf (fun k hk => ?_)
    unfold dch
    rw [if_neg (fun x => c x.1), show 7010 - i + k = 7010 - (i - k) from by omega, hd _ (by omega), show dcl n - 1 - k = i - k from by omega]
theorem wd_lp {t : Int} {d : Nat} {v0 : Mem} {Q : Int → Mem → Prop} {n : Int} {c : Nat} (hn : n.natAbs < 10000000000) (hc : nd n.natAbs = c) (hq : ∀ v', WDf v0 v' → (∀ k, k < dcl n → v' 14 (7011 - dcl n + k) = dch n k) → Q ((7011 - dcl n : Nat) : Int) v') : ∀ (m i : Nat) (v : Mem), i + 1 + m = c → WDf v0 v → (∀ j, j ≤ i → v 14 (7010 - j) = ((48 + n.natAbs / 10 ^ j % 10 : Nat) : Int)) →
    LL t (d + 1) 7 35 [(2, 13), (0, n), (1, ((n.natAbs / 10 ^ (i + 1) : Nat) : Int)), (3, 0), (0, ((7010 - i : Nat) : Int)), (0, (i : Int))] [] v Q := by
  obtain ⟨s1, s2, s3, s4⟩ := nd_spec hn
  rw [hc] at s1 s2 s3 s4
  intro m
  induction m with
  | zero =>
    intro i v hi hf hd
    have z : n.natAbs / 10 ^ (i + 1) = 0 := Nat.div_eq_of_lt (by rw [show i + 1 = c from by omega]; exact s1)
    have en := wd_end (Q := Q) (i := i) (by omega) (by omega) hf hd hq
    refine s_7_35 (d := d) ⟨fun _ => ⟨fun x => ?_, fun _ => en⟩, fun _ => en⟩
    rw [z, lcm3_pos] at x
    exact absurd x (by omega)
  | succ m ih =>
    intro i v hi hf hd
    have hp : 10 ^ (i + 1) ≤ n.natAbs := Nat.le_trans (p10_le (j := c - 1) (by omega)) (by omega)
    have z : 1 ≤ n.natAbs / 10 ^ (i + 1) := (Nat.one_le_div_iff (p10_pos _)).mpr hp
    have zl : n.natAbs / 10 ^ (i + 1) < 10000000000 := Nat.lt_of_le_of_lt (Nat.div_le_self _ _) hn
    have et : Int.tdiv ((n.natAbs / 10 ^ (i + 1) : Nat) : Int) 10 = ((n.natAbs / 10 ^ (i + 1) / 10 : Nat) : Int) := rfl
    have zl2 : n.natAbs / 10 ^ (i + 1) / 10 < 10000000000 := Nat.lt_of_le_of_lt (Nat.div_le_self _ _) zl
    refine s_7_35 (d := d) ⟨fun _ => ⟨fun _ => ?_, fun x => absurd (lcm3_pos.mpr (by omega)) x⟩, fun x => absurd (by omega) x⟩
    rw [et, w64_id (a := ((n.natAbs / 10 ^ (i + 1) / 10 : Nat) : Int)) (by omega) (by omega), wNat (k := 7010 - (i + 1)) (a := ((7010 - i : Nat) : Int) + (-1)) (by omega) (by omega), wNat (k := i + 1) (a := (i : Int) + 1) (by omega) (by omega), m3_p (by omega), dg8, div10]
    refine ih (i + 1) _ (by omega) (hf.put (by omega) (by omega)) (fun j hj => ?_)
    by_cases e : j = i + 1
    · rw [e, up_k]
    · rw [up_nk (by omega)]
      exact hd j (by omega)
theorem f274 {n : Int} {v : Mem} (h1 : -2147483648 ≤ n) (h2 : n < 2147483648) : f_274 n v = ((n.natAbs : Nat) : Int) := by
  unfold f_274
  have e : lcm3 n 0 < 0 ↔ n < 0 := by
    unfold lcm3
    split
    · omega
    · split <;> omega
  by_cases c : n < 0
  · rw [if_pos (e.mpr c), w64_id (by omega) (by omega)]
    omega
  · rw [if_neg (fun x => c (e.mp x))]
    omega
theorem wd_rr {t : Int} {d : Nat} {v : Mem} {Q : Int → Mem → Prop} {n : Int} (h1 : -2147483648 ≤ n) (h2 : n < 2147483648) (hq : ∀ v', WDf v v' → (∀ k, k < dcl n → v' 14 (7011 - dcl n + k) = dch n k) → Q ((7011 - dcl n : Nat) : Int) v') : RR t (d + 1) 7 [(2, 13), (0, n)] v Q := by
  have hn : n.natAbs < 10000000000 := by omega
  obtain ⟨s1, s2, s3, s4⟩ := nd_spec hn
  have et : Int.tdiv ((n.natAbs : Nat) : Int) 10 = ((n.natAbs / 10 : Nat) : Int) := rfl
  have zl2 : n.natAbs / 10 < 10000000000 := Nat.lt_of_le_of_lt (Nat.div_le_self _ _) hn
  refine s_7 (d := d) ?_
  have m3 : ∀ x : Int, m_3 7010 x v = up v 14 7010 (w8 (w8 x)) := fun x => m3_p (a := 7010) (by omega)
  rw [f274 h1 h2, et, w64_id (a := ((n.natAbs / 10 : Nat) : Int)) (by omega) (by omega), m3, dg8]
  have q := wd_lp (t := t) (d := d) (v0 := v) (Q := Q) hn rfl hq (nd n.natAbs - 1) 0 (up v 14 7010 ((48 + n.natAbs % 10 : Nat) : Int)) (by omega) ?_ (fun j hj => ?_)
  · rw [show (10 : Nat) ^ (0 + 1) = 10 from rfl] at q
    exact q
  · exact WDf.put ⟨fun _ _ => rfl, fun _ _ => rfl⟩ (by omega) (by omega)
  · have : j = 0 := by omega
    rw [this, Nat.pow_zero, Nat.div_one]
    exact up_k
