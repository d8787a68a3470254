/-! Bytes are fed: both sides. -/
theorem shb (x : BitVec 64) (s : Nat) (h : s ≤ 56) : (x >>> s).toNat % 256 = (x.sshiftRight s).toNat % 256 := by
  have e : (x >>> s).setWidth 8 = (x.sshiftRight s).setWidth 8 := by
    apply BitVec.eq_of_getLsbD_eq
    intro i hi
    rw [BitVec.getLsbD_setWidth, BitVec.getLsbD_setWidth, BitVec.getLsbD_ushiftRight, BitVec.getLsbD_sshiftRight]
    rw [if_pos (by omega)]
    have : decide (64 ≤ i) = false := decide_eq_false (by omega)
    rw [this]
    simp
  have e2 := congrArg BitVec.toNat e
  rw [BitVec.toNat_setWidth, BitVec.toNat_setWidth] at e2
  exact e2
theorem fd8 {x y : BitVec 64} (h : x.toNat % 256 = y.toNat % 256) : w8 (w8 (w32 x.toInt)) = w8 (w8 (w32 y.toInt)) := by
  have hx := x.isLt
  have hy := y.isLt
  rw [BitVec.toInt_eq_toNat_cond, BitVec.toInt_eq_toNat_cond]
  generalize x.toNat = a at *
  generalize y.toNat = b at *
  unfold w8 w32
  split <;> split <;> omega
theorem fdb (a : Int) (k : Nat) (hk : k < 8) : w8 (w8 (w32 (lushr a (w32 (8 * (k : Int)))))) = w8 (w8 (w32 (lshr a (w32 (8 * (k : Int)))))) := by
  match k, hk with
  | 0, _ => exact fd8 (shb (Int64.ofInt a).toBitVec 0 (by decide))
  | 1, _ => exact fd8 (shb (Int64.ofInt a).toBitVec 8 (by decide))
  | 2, _ => exact fd8 (shb (Int64.ofInt a).toBitVec 16 (by decide))
  | 3, _ => exact fd8 (shb (Int64.ofInt a).toBitVec 24 (by decide))
  | 4, _ => exact fd8 (shb (Int64.ofInt a).toBitVec 32 (by decide))
  | 5, _ => exact fd8 (shb (Int64.ofInt a).toBitVec 40 (by decide))
  | 6, _ => exact fd8 (shb (Int64.ofInt a).toBitVec 48 (by decide))
  | 7, _ => exact fd8 (shb (Int64.ofInt a).toBitVec 56 (by decide))
  | k + 8, h => exact absurd h (by omega)
/-- byte j of the eight -/
def fbt (x : Int) (j : Nat) : Int := w8 (w8 (w32 (lshr x (w32 (8 * (j : Int))))))
theorem fbt_r (x : Int) (j : Nat) : -128 ≤ fbt x j ∧ fbt x j < 128 := by
  unfold fbt
  generalize w8 (w32 (lshr x (w32 (8 * (j : Int))))) = y
  unfold w8
  omega
/-- i bytes are fed: field k of cell a counts, row b holds -/
def FD (a b k nf : Nat) (x : Int) (i : Nat) (v w : Mem) : Prop := w a k = ((nf + i : Nat) : Int) ∧ (∀ j, j < i → w b (nf + j) = fbt x j) ∧ (∀ j, j < nf → w b j = v b j) ∧ (∀ k', k' ≠ k → w a k' = v a k') ∧ (∀ c, c ≠ a → c ≠ b → w c = v c) ∧ ∀ j, w b j = v b j ∨ ∃ y, w b j = fbt x y
theorem FD.next {a b k nf i : Nat} {x y : Int} {v w : Mem} (h : FD a b k nf x i v w) (hab : a ≠ b) (hy : y = fbt x i) : FD a b k nf x (i + 1) v (up (up w b (nf + i) y) a k ((nf + (i + 1) : Nat) : Int)) := by
  obtain ⟨h1, h2, h3, h4, h5, h6⟩ := h
  refine ⟨up_k, fun j hj => ?_, fun j hj => ?_, fun k' hk => ?_, fun c c1 c2 => ?_, fun j => ?_⟩
  · rw [up_ne (Ne.symm hab)]
    by_cases e : j = i
    · subst e; rw [up_k, hy]
    · rw [up_nk (by omega)]; exact h2 j (by omega)
  · rw [up_ne (Ne.symm hab), up_nk (by omega)]; exact h3 j hj
  · rw [up_nk hk, up_ne hab]; exact h4 k' hk
  · rw [up_ne c1, up_ne c2]; exact h5 c c1 c2
  · rw [up_ne (Ne.symm hab)]
    by_cases e : j = nf + i
    · subst e; rw [up_k, hy]; exact Or.inr ⟨i, rfl⟩
    · rw [up_nk e]; exact h6 j
theorem feed_c {t : Int} {d nf m : Nat} {x : Int} {v : Mem} {Q : Int → Mem → Prop} (h5 : v 0 5 = (nf : Int)) (m1 : 1 ≤ m) (m8 : m ≤ 8) (hs : nf + m ≤ 3200) (hq : ∀ w, FD 0 12 5 nf x m v w → Q ((nf + m : Nat) : Int) w) : RR t d 172 [(2, 0), (1, x), (0, (m : Int))] v Q := by
  have lp : ∀ (r i : Nat) (w : Mem), i + r = m → FD 0 12 5 nf x i v w → LL t d 172 46 [(2, 0), (1, x), (3, 0), (0, (m : Int)), (0, (i : Int))] [] w Q := by
    intro r
    induction r with
    | zero =>
      intro i w hi h
      have hi : i = m := by omega
      subst hi
      refine s_172_46 ⟨fun c => absurd c (by omega), fun _ => ?_⟩
      rw [h.1]
      exact hq w h
    | succ r ih =>
      intro i w hi h
      refine s_172_46 ⟨fun _ => ?_, fun c => absurd (by omega) c⟩
      rw [h.1, Int.toNat_natCast, wNat (k := i + 1) (a := (i : Int) + 1) (by omega) (by omega), wNat (k := nf + (i + 1)) (a := ((nf + i : Nat) : Int) + 1) (by omega) (by omega), fdb x i (by omega)]
      exact ⟨fun c => absurd c (by omega), fun _ => ⟨fun _ => ih (i + 1) _ (by omega) (h.next (by decide) rfl), fun c => absurd (by omega) c⟩⟩
  refine w_172 ⟨fun c => absurd c (by omega), fun _ => ⟨fun c => absurd c (by omega), fun _ => ?_⟩⟩
  rw [h5, wNat (k := nf + m) (a := (nf : Int) + (m : Int)) (by omega) (by omega)]
  exact ⟨fun c => absurd c (by omega), fun _ => lp m 0 v (by omega) ⟨h5, fun j hj => absurd hj (Nat.not_lt_zero _), fun _ _ => rfl, fun _ _ => rfl, fun _ _ _ => rfl, fun _ => Or.inl rfl⟩⟩
theorem feed_r {t : Int} {d nf m : Nat} {x : Int} {v : Mem} {Q : Int → Mem → Prop} (h1 : v 38 1 = (nf : Int)) (m1 : 1 ≤ m) (m8 : m ≤ 8) (hs : nf + m ≤ 3200) (hq : ∀ w, FD 38 39 1 nf x m (up v 38 7 0) w → Q ((nf + m : Nat) : Int) w) : RR t d 183 [(2, 38), (1, x), (0, (m : Int))] v Q := by
  have lp : ∀ (r i : Nat) (w : Mem), i + r = m → FD 38 39 1 nf x i (up v 38 7 0) w → LL t d 183 35 [(2, 38), (1, x), (3, 0), (0, (m : Int)), (0, (i : Int))] [] w Q := by
    intro r
    induction r with
    | zero =>
      intro i w hi h
      have hi : i = m := by omega
      subst hi
      have e7 : w 38 7 = 0 := by rw [h.2.2.2.1 7 (by decide), up_k]
      refine w_183_35 ⟨fun c => absurd c (by omega), fun _ => ⟨fun _ => ?_, fun c => absurd e7 c⟩⟩
      rw [h.1]
      exact hq w h
    | succ r ih =>
      intro i w hi h
      have e7 : w 38 7 = 0 := by rw [h.2.2.2.1 7 (by decide), up_k]
      refine w_183_35 ⟨fun _ => ⟨fun _ => ?_, fun c => absurd e7 c⟩, fun c => absurd (by omega) c⟩
      rw [h.1, Int.toNat_natCast, wNat (k := i + 1) (a := (i : Int) + 1) (by omega) (by omega), wNat (k := nf + (i + 1)) (a := ((nf + i : Nat) : Int) + 1) (by omega) (by omega)]
      exact ⟨⟨by omega, by omega⟩, ih (i + 1) _ (by omega) (h.next (by decide) rfl)⟩
  refine w_183 ⟨fun c => absurd c (by omega), fun _ => ⟨fun c => absurd c (by omega), fun _ => ?_⟩⟩
  rw [h1, wNat (k := nf + m) (a := (nf : Int) + (m : Int)) (by omega) (by omega)]
  exact ⟨fun c => absurd c (by omega), fun _ => lp m 0 _ (by omega) ⟨by rw [up_nk (by decide)]; exact h1, fun j hj => absurd hj (Nat.not_lt_zero _), fun _ _ => rfl, fun _ _ => rfl, fun _ _ _ => rfl, fun _ => Or.inl rfl⟩⟩
/-- it throws -/
theorem feed_x {t : Int} {d nf : Nat} {x a : Int} {v : Mem} {Q : Int → Mem → Prop} (h1 : v 38 1 = (nf : Int)) (hn : nf ≤ 3200) (h : a < 1 ∨ 8 < a ∨ 3200 < (nf : Int) + a) (hq : Q 0 (up v 38 7 1)) : RR t d 183 [(2, 38), (1, x), (0, a)] v Q := by
  have key : LL t d 183 35 [(2, 38), (1, x), (3, 0), (0, a), (0, 0)] [] (up v 38 7 1) Q := by
    have e7 : ¬ up v 38 7 1 38 7 = 0 := by rw [up_k]; decide
    exact w_183_35 ⟨fun _ => ⟨fun c => absurd c e7, fun _ => ⟨fun c => absurd c e7, fun _ => hq⟩⟩, fun _ => ⟨fun c => absurd c e7, fun _ => hq⟩⟩
  refine w_183 ⟨fun _ => key, fun c1 => ⟨fun _ => key, fun c2 => ⟨fun _ => key, fun c3 => ?_⟩⟩⟩
  rw [h1] at c3
  obtain ⟨m, rfl⟩ : ∃ m : Nat, a = (m : Int) := ⟨a.toNat, by omega⟩
  rw [wNat (k := nf + m) (a := (nf : Int) + (m : Int)) (by omega) (by omega)] at c3
  omega
