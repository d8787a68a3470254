/-! The class's bytes: copy, alike. -/
theorem f6 {v : Mem} {a n : Nat} (h : a + n ≤ 9011) : f_6 (a : Int) (n : Int) v = 1 := by
  unfold f_6
  rw [if_neg (by omega), if_neg (by omega), if_neg (by omega), w32_id (a := (9011 : Int) - (n : Int)) (by omega) (by omega), if_neg (by omega)]
theorem copy_rr {t : Int} {d : Nat} {v : Mem} {Q : Int → Mem → Prop} {a b n : Nat} (h1 : a + n ≤ 9011) (h2 : b + n ≤ 9011) (hq : Q 0 (cpV v 14 a 14 b n)) : RR t (d + 1) 4 [(2, 13), (0, (a : Int)), (0, (b : Int)), (0, (n : Int))] v Q := by
  refine s_4 ?_
  rw [f6 h1, f6 h2, Int.toNat_natCast, Int.toNat_natCast, Int.toNat_natCast]
  exact ⟨fun c => absurd c (by decide), fun _ => ⟨fun c => absurd c (by decide), fun _ => ⟨⟨by omega, by omega, by omega, by omega, by omega⟩, hq⟩⟩⟩
/-- how many bytes are alike from i on -/
def alk (b : Nat → Int) (p q : Nat) : Nat → Nat → Nat
  | 0, i => i
  | m + 1, i => if b (p + i) = b (q + i) then alk b p q m (i + 1) else i
theorem alk_lp {t : Int} {d : Nat} {v : Mem} {Q : Int → Mem → Prop} {p q n : Nat} (h1 : p + n ≤ 9011) (h2 : q + n ≤ 9011) : ∀ (m i : Nat), i + m = n → Q ((alk (v 14) p q m i : Nat) : Int) v → LL t d 5 23 [(2, 13), (0, (p : Int)), (0, (q : Int)), (0, (n : Int)), (0, (i : Int))] [] v Q := by
  intro m
  induction m with
  | zero =>
    intro i hi hq
    have hi : i = n := by omega
    subst hi
    exact w_5_23 ⟨fun c => absurd c (by omega), fun _ => hq⟩
  | succ m ih =>
    intro i hi hq
    have hq : Q ((if v 14 (p + i) = v 14 (q + i) then alk (v 14) p q m (i + 1) else i : Nat) : Int) v := hq
    refine w_5_23 ?_
    rw [wNat (k := p + i) (a := (p : Int) + (i : Int)) (by omega) (by omega), wNat (k := q + i) (a := (q : Int) + (i : Int)) (by omega) (by omega), wNat (k := i + 1) (a := (i : Int) + 1) (by omega) (by omega), Int.toNat_natCast, Int.toNat_natCast]
    refine ⟨fun _ => ⟨⟨by omega, by omega⟩, ⟨by omega, by omega⟩, fun c => ?_, fun c => ?_⟩, fun c => absurd (by omega) c⟩
    · rw [if_pos c] at hq
      exact ih (i + 1) (by omega) hq
    · rw [if_neg c] at hq
      exact hq
theorem alike_rr {t : Int} {d : Nat} {v : Mem} {Q : Int → Mem → Prop} {p q n : Nat} (h1 : p + n ≤ 9011) (h2 : q + n ≤ 9011) (hq : Q ((alk (v 14) p q n 0 : Nat) : Int) v) : RR t (d + 1) 5 [(2, 13), (0, (p : Int)), (0, (q : Int)), (0, (n : Int))] v Q := by
  refine s_5 ?_
  rw [f6 h1, f6 h2]
  exact ⟨fun c => absurd c (by decide), fun _ => ⟨fun c => absurd c (by decide), fun _ => alk_lp h1 h2 n 0 (Nat.zero_add _) hq⟩⟩
