/-! The reference's digits. -/
theorem w64N {k : Nat} (h : k < 10000000000) : w64 (k : Int) = (k : Int) := w64_id (by omega) (by omega)
def WRf (v v' : Mem) : Prop := (∀ x, x ≠ 81 → x ≠ 38 → v' x = v x) ∧ ∀ j, j ≠ 77 → v' 38 j = v 38 j
theorem wr_lp2 {t : Int} {d : Nat} {v0 : Mem} {Q : Int → Mem → Prop} {n : Int} (hn : n.natAbs < 10000000000) (hq : ∀ v', WRf v0 v' → v' 38 77 = ((dcl n : Nat) : Int) → (∀ k, k < dcl n → v' 81 k = dch n k) → Q 0 v') : ∀ (m : Nat) (v : Mem), m ≤ nd n.natAbs → (∀ x, x ≠ 81 → v x = v0 x) → (∀ k, k < dcl n - m → v 81 k = dch n k) →
    LL t d 247 54 [(2, 38), (3, 0), (1, ((n.natAbs : Nat) : Int)), (3, 0), (0, ((dcl n - m : Nat) : Int)), (3, 0), (3, 0), (1, ((10 ^ m / 10 : Nat) : Int)), (3, 0)] [] v Q := by
  obtain ⟨s1, s2, s3, s4⟩ := nd_spec hn
  have hl : nd n.natAbs ≤ dcl n ∧ dcl n ≤ nd n.natAbs + 1 := by unfold dcl; split <;> omega
  intro m
  induction m with
  | zero =>
    intro v hm hf hd
    refine s_247_54 ⟨fun x => ?_, fun _ => ?_⟩
    · rw [show (10 : Nat) ^ 0 / 10 = 0 from rfl, lcm3_pos] at x
      exact absurd x (by omega)
    · rw [Nat.sub_zero] at hd ⊢
      refine hq _ ⟨fun x h1 h2 => by rw [up_ne h2]; exact hf x h1, fun j hj => by rw [up_nk hj, hf 38 (by decide)]⟩ up_k (fun k hk => ?_)
      rw [up_ne (by decide)]
      exact hd k hk
  | succ m ih =>
    intro v hm hf hd
    have e : 10 ^ (m + 1) / 10 = 10 ^ m := by rw [p10, Nat.mul_div_cancel_left _ (by decide)]
    have hp := p10_pos m
    have hp2 : 10 ^ m ≤ 10 ^ 9 := p10_le (by omega)
    rw [show (10 : Nat) ^ 9 = 1000000000 from rfl] at hp2
    have e1 : Int.tdiv ((n.natAbs : Nat) : Int) ((10 ^ m : Nat) : Int) = ((n.natAbs / 10 ^ m : Nat) : Int) := rfl
    have e2 : Int.tdiv ((10 ^ m : Nat) : Int) 10 = ((10 ^ m / 10 : Nat) : Int) := rfl
    have b1 : n.natAbs / 10 ^ m < 10000000000 := Nat.lt_of_le_of_lt (Nat.div_le_self _ _) hn
    have b2 : 10 ^ m / 10 ≤ 1000000000 := Nat.le_trans (Nat.div_le_self _ _) hp2
    rw [e]
    refine s_247_54 ⟨fun _ => ⟨by omega, ⟨by omega, by omega⟩, ?_⟩, fun x => absurd (lcm3_pos.mpr (by omega)) x⟩
    rw [e1, e2, w64N b1, w64N (k := 10 ^ m / 10) (Nat.lt_of_le_of_lt b2 (by decide)), dg8', Int.toNat_natCast, wNat (k := dcl n - m) (a := ((dcl n - (m + 1) : Nat) : Int) + 1) (by omega) (by omega)]
    refine ih _ (by omega) (fun x hx => by rw [up_ne hx]; exact hf x hx) (fun k hk => ?_)
    by_cases c : k = dcl n - (m + 1)
    · rw [c, up_k]
      unfold dch
      have c0 : ¬ (n < 0 ∧ dcl n - (m + 1) = 0) := fun x => by
        have : dcl n = nd n.natAbs + 1 := by unfold dcl; rw [if_pos x.1]
        omega
      rw [if_neg c0, show dcl n - 1 - (dcl n - (m + 1)) = m from by omega]
    · rw [up_nk c]
      exact hd k (by omega)
theorem wr_lp1 {t : Int} {d : Nat} {v : Mem} {Q : Int → Mem → Prop} {n : Int} (hn : n.natAbs < 10000000000) (hq : ∀ v', WRf v v' → v' 38 77 = ((dcl n : Nat) : Int) → (∀ k, k < dcl n → v' 81 k = dch n k) → Q 0 v') : ∀ (m i : Nat), i + m + 1 = nd n.natAbs →
    LL t d 247 20 [(2, 38), (3, 0), (1, ((n.natAbs : Nat) : Int)), (3, 0), (0, ((dcl n - nd n.natAbs : Nat) : Int)), (1, ((10 ^ i : Nat) : Int)), (3, 0), (3, 0), (3, 0)] [] v Q := by
  obtain ⟨s1, s2, s3, s4⟩ := nd_spec hn
  have hl : nd n.natAbs ≤ dcl n ∧ dcl n ≤ nd n.natAbs + 1 := by unfold dcl; split <;> omega
  intro m
  induction m with
  | zero =>
    intro i hi
    have hp := p10_pos i
    have e1 : Int.tdiv ((n.natAbs : Nat) : Int) ((10 ^ i : Nat) : Int) = ((n.natAbs / 10 ^ i : Nat) : Int) := rfl
    have b0 : n.natAbs / 10 ^ i < 10 := (Nat.div_lt_iff_lt_mul (p10_pos i)).mpr (by rw [← p10, show i + 1 = nd n.natAbs from by omega]; exact s1)
    refine s_247_20 ⟨by omega, ?_⟩
    rw [e1, w64N (Nat.lt_trans b0 (by decide))]
    refine ⟨fun x => ?_, fun _ => ?_⟩
    · rw [lcm3_pos] at x
      exact absurd x (by omega)
    · have q := wr_lp2 (t := t) (d := d) (v0 := v) (Q := Q) hn hq (nd n.natAbs) (up v 81 0 45) (Nat.le_refl _) (fun x hx => up_ne hx) (fun k hk => ?_)
      · rw [show 10 ^ nd n.natAbs / 10 = 10 ^ i from by rw [show nd n.natAbs = i + 1 from by omega, p10, Nat.mul_div_cancel_left _ (by decide)]] at q
        exact q
      · have c : n < 0 := Classical.byContradiction (fun c => by
          have : dcl n = nd n.natAbs := by unfold dcl; rw [if_neg c]; omega
          omega)
        have k0 : k = 0 := by omega
        unfold dch
        rw [if_pos ⟨c, k0⟩, k0, up_k]
  | succ m ih =>
    intro i hi
    have hp := p10_pos i
    have hp2 : 10 ^ (i + 1) ≤ 10 ^ 9 := p10_le (by omega)
    rw [show (10 : Nat) ^ 9 = 1000000000 from rfl] at hp2
    have e1 : Int.tdiv ((n.natAbs : Nat) : Int) ((10 ^ i : Nat) : Int) = ((n.natAbs / 10 ^ i : Nat) : Int) := rfl
    have b1 : n.natAbs / 10 ^ i < 10000000000 := Nat.lt_of_le_of_lt (Nat.div_le_self _ _) hn
    have hw : 10 ^ (i + 1) ≤ n.natAbs := Nat.le_trans (p10_le (j := nd n.natAbs - 1) (by omega)) (by omega)
    have b0 : 10 ≤ n.natAbs / 10 ^ i := (Nat.le_div_iff_mul_le (p10_pos i)).mpr (by rw [← p10]; exact hw)
    have e3 : ((10 ^ i : Nat) : Int) * 10 = ((10 ^ (i + 1) : Nat) : Int) := by rw [p10]; omega
    refine s_247_20 ⟨by omega, ?_⟩
    rw [e1, w64N b1, e3, w64N (k := 10 ^ (i + 1)) (Nat.lt_of_le_of_lt hp2 (by decide))]
    exact ⟨fun _ => ih (i + 1) (by omega), fun x => absurd (lcm3_pos.mpr (by omega)) x⟩
theorem wr_rr {t : Int} {d : Nat} {v : Mem} {Q : Int → Mem → Prop} {n : Int} (h1 : -2147483648 ≤ n) (h2 : n < 2147483648) (hq : ∀ v', WRf v v' → v' 38 77 = ((dcl n : Nat) : Int) → (∀ k, k < dcl n → v' 81 k = dch n k) → Q 0 v') : RR t (d + 1) 247 [(2, 38), (0, n)] v Q := by
  have hn : n.natAbs < 10000000000 := by omega
  obtain ⟨s1, s2, s3, s4⟩ := nd_spec hn
  have q := wr_lp1 (t := t) (d := d + 1) (v := v) (Q := Q) hn hq (nd n.natAbs - 1) 0 (by omega)
  rw [Nat.pow_zero] at q
  refine s_247 (d := d) ?_
  rw [f274 h1 h2]
  refine ⟨fun c => ?_, fun c => ?_⟩
  · have e : dcl n - nd n.natAbs = 1 := by unfold dcl; rw [if_pos c]; omega
    rw [e] at q
    exact q
  · have e : dcl n - nd n.natAbs = 0 := by unfold dcl; rw [if_neg c]; omega
    rw [e] at q
    exact q
