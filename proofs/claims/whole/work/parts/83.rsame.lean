/-! The reference: NAMEs that are the same; the row of a local, of a FUNCTION. -/
theorem en_all {p : Int → Bool} {u : Nat → Int} {n : Nat} : ∀ (f k : Nat), k + f = n → ∀ j, k ≤ j → j < en p u n k → p (u j) = true := by
  intro f
  induction f with
  | zero =>
    intro k hk j h1 h2
    rw [en_end (by omega)] at h2
    omega
  | succ f ih =>
    intro k hk j h1 h2
    cases hp : p (u k) with
    | false =>
      rw [en_stop hp] at h2
      omega
    | true =>
      rw [en_go hp (by omega)] at h2
      rcases Nat.lt_or_eq_of_le h1 with h | h
      · exact ih (k + 1) (by omega) j h h2
      · rw [← h]; exact hp
/-- a NAME -/
theorem nm_word {u : Nat → Int} {b : Nat → Int} {n i : Nat} (hu : u = uB b n) (hk : kd u n i = 2) : ∃ m : Nat, ln u n i = m ∧ ps u n i + m ≤ n ∧ m ≤ 12 ∧ vl u n i = pklA 0 (segU u (ps u n i) m) ∧ ∀ c ∈ segU u (ps u n i) m, isNm c = true := by
  have hp : ps u n i ≤ n := by rw [hu]; exact ps_le i
  unfold ln vl
  unfold kd at hk
  generalize ps u n i = p at hp hk ⊢
  unfold wordAt at hk ⊢
  by_cases c0 : u p < 0
  · rw [if_pos c0] at hk
    exact absurd hk (by dsimp only; omega)
  rw [if_neg c0] at hk ⊢
  by_cases c1 : isLt (u p) = true
  · rw [if_pos c1] at hk ⊢
    by_cases c2 : en isNm u n p - p ≤ 12
    · rw [if_pos c2]
      have h1 := en_b (p := isNm) (u := u) hp
      refine ⟨en isNm u n p - p, ?_, by omega, c2, ?_, ?_⟩
      · dsimp only
        omega
      · dsimp only
        rw [pk_seg]
      · exact segU_nm _ _ (fun j h3 h4 => en_all (n := n) (n - p) p (by omega) j h3 (by omega))
    · rw [if_neg c2] at hk
      exact absurd hk (by dsimp only; omega)
  rw [if_neg c1] at hk
  by_cases c3 : isDg (u p) = true
  · rw [if_pos c3] at hk
    split at hk <;> exact absurd hk (by dsimp only; omega)
  rw [if_neg c3] at hk
  by_cases c5 : u p = 34
  · rw [if_pos c5] at hk
    split at hk <;> exact absurd hk (by dsimp only; omega)
  rw [if_neg c5] at hk
  by_cases c7 : isSg (u p) = true
  · rw [if_pos c7] at hk
    have h33 : 33 ≤ u p := by
      unfold isSg at c7
      simp at c7
      omega
    split at hk <;> exact absurd hk (by dsimp only; omega)
  · rw [if_neg c7] at hk
    exact absurd hk (by dsimp only; omega)
theorem seg_eq {u : Nat → Int} : ∀ (m k k' : Nat), segU u k m = segU u k' m ↔ ∀ q, q < m → u (k + q) = u (k' + q) := by
  intro m
  induction m with
  | zero => intro k k'; exact ⟨fun _ q hq => absurd hq (Nat.not_lt_zero _), fun _ => rfl⟩
  | succ m ih =>
    intro k k'
    show u k :: segU u (k + 1) m = u k' :: segU u (k' + 1) m ↔ _
    rw [List.cons.injEq, ih]
    constructor
    · rintro ⟨h1, h2⟩ q hq
      cases q with
      | zero => exact h1
      | succ q =>
        have := h2 q (by omega)
        rw [show k + (q + 1) = k + 1 + q by omega, show k' + (q + 1) = k' + 1 + q by omega]
        exact this
    · intro h
      refine ⟨h 0 (by omega), fun q hq => ?_⟩
      have := h (q + 1) (by omega)
      rw [show k + (q + 1) = k + 1 + q by omega, show k' + (q + 1) = k' + 1 + q by omega] at this
      exact this
theorem byte_eq {v : Mem} {n a b : Nat} (ht : TXT 40 v n) (ha : a < n) (hb : b < n) : v 40 a = v 40 b ↔ uB (v 40) n a = uB (v 40) n b := by
  rw [uB_in ha, uB_in hb]
  have h1 := ht.2 a ha
  have h2 := ht.2 b hb
  omega
theorem same_rr {t : Int} {d : Nat} {v : Mem} {Q : Int → Mem → Prop} {u : Nat → Int} {n i j : Nat} (ht : TXT 40 v n) (hu : uB (v 40) n = u) (hi : kd u n i = 2) (hj : kd u n j = 2) (hq : Q (if vl u n i = vl u n j then 1 else 0) v) : RR t d 215 [(2, 38), (0, (ps u n i : Int)), (0, ln u n i), (0, (ps u n j : Int)), (0, ln u n j)] v Q := by
  obtain ⟨m, a1, a2, a3, a4, a5⟩ := nm_word hu.symm hi
  obtain ⟨m', b1, b2, b3, b4, b5⟩ := nm_word hu.symm hj
  have hn := ht.1
  have iff : vl u n i = vl u n j ↔ m = m' ∧ ∀ q, q < m → u (ps u n i + q) = u (ps u n j + q) := by
    rw [a4, b4]
    constructor
    · intro h
      have h1 := pkl_inj _ _ _ (Nat.le_refl _) a5 b5 h
      have h2 : m = m' := by
        have := congrArg List.length h1
        rw [segU_len, segU_len] at this
        exact this
      subst h2
      exact ⟨rfl, (seg_eq m _ _).mp h1⟩
    · rintro ⟨h1, h2⟩
      subst h1
      rw [(seg_eq m _ _).mpr h2]
  rw [a1, b1]
  -- the loop
  have lp : m = m' → ∀ (r k : Nat), k + r = m → (∀ q, q < k → u (ps u n i + q) = u (ps u n j + q)) → LL t d 215 16 [(2, 38), (0, (ps u n i : Int)), (0, (m : Int)), (0, (ps u n j : Int)), (3, 0), (0, 1), (0, (k : Int))] [] v Q := by
    intro hmm r
    induction r with
    | zero =>
      intro k hk hall
      refine w_215_16 ⟨fun c => absurd c (by omega), fun _ => ⟨Or.inr rfl, ?_⟩⟩
      rw [if_pos (iff.mpr ⟨hmm, fun q hq => hall q (by omega)⟩)] at hq
      exact hq
    | succ r ih =>
      intro k hk hall
      have e1 : w32 ((ps u n i : Int) + (k : Int)) = ((ps u n i + k : Nat) : Int) := wNat (by omega) (by omega)
      have e2 : w32 ((ps u n j : Int) + (k : Int)) = ((ps u n j + k : Nat) : Int) := wNat (by omega) (by omega)
      refine w_215_16 ⟨fun _ => ⟨fun c => absurd c (by decide), fun _ => ?_⟩, fun c => absurd (by omega) c⟩
      rw [e1, e2, Int.toNat_natCast, Int.toNat_natCast, wS (k := k) (m := 13) (by omega) (by decide)]
      clear e1 e2
      have hb := byte_eq (a := ps u n i + k) (b := ps u n j + k) ht (by omega) (by omega)
      rw [hu] at hb
      refine ⟨⟨by omega, by omega⟩, ⟨by omega, by omega⟩, fun c => ?_, fun c => ?_⟩
      · refine ih (k + 1) (by omega) (fun q hq => ?_)
        rcases Nat.lt_succ_iff_lt_or_eq.mp hq with h | h
        · exact hall q h
        · rw [h]; exact hb.mp c
      · have hne : ¬ vl u n i = vl u n j := fun h => c (hb.mpr ((iff.mp h).2 k (by omega)))
        rw [if_neg hne] at hq
        exact w_215_16 ⟨fun _ => ⟨fun _ => ⟨Or.inl rfl, hq⟩, fun c => absurd rfl c⟩, fun _ => ⟨Or.inl rfl, hq⟩⟩
  refine w_215 ⟨fun c => lp (by omega) m 0 (Nat.zero_add m) (fun q hq => absurd hq (Nat.not_lt_zero _)), fun c => ?_⟩
  have hne : ¬ vl u n i = vl u n j := fun h => c (by rw [(iff.mp h).1])
  rw [if_neg hne] at hq
  exact w_215_16 ⟨fun _ => ⟨fun _ => ⟨Or.inl rfl, hq⟩, fun c => absurd rfl c⟩, fun _ => ⟨Or.inl rfl, hq⟩⟩
/-- rows of NAMEs, in cells c1 (places) and c2 (lengths): row k is word W k -/
def NR (v : Mem) (u : Nat → Int) (n c1 c2 c : Nat) (W : Nat → Nat) : Prop := ∀ k, k < c → v c1 k = (ps u n (W k) : Nat) ∧ v c2 k = ln u n (W k) ∧ kd u n (W k) = 2
theorem local_rr {t : Int} {d : Nat} {v : Mem} {Q : Int → Mem → Prop} {u : Nat → Int} {n i c : Nat} {W : Nat → Nat} (ht : TXT 40 v n) (hu : uB (v 40) n = u) (hi : kd u n i = 2) (hc : v 38 42 = c) (hc2 : c ≤ 30) (hW : NR v u n 63 64 c W) (hq : Q (fndA (fun k => vl u n (W k)) (vl u n i) c 0) v) : RR t (d + 1) 216 [(2, 38), (0, (ps u n i : Int)), (0, ln u n i)] v Q := by
  have lp : ∀ (m k : Nat), k + m = c → Q (fndA (fun k => vl u n (W k)) (vl u n i) m k) v → LL t (d + 1) 216 2 [(2, 38), (0, (ps u n i : Int)), (0, ln u n i), (0, (k : Int))] [] v Q := by
    intro m
    induction m with
    | zero =>
      intro k hk hq
      refine s_216_2 ?_
      rw [hc]
      exact ⟨fun h => absurd h (by omega), fun _ => hq⟩
    | succ m ih =>
      intro k hk hq
      have hq : Q (if vl u n (W k) = vl u n i then (k : Int) else fndA (fun k => vl u n (W k)) (vl u n i) m (k + 1)) v := hq
      obtain ⟨w1, w2, w3⟩ := hW k (by omega)
      refine s_216_2 ?_
      rw [hc, Int.toNat_natCast, w1, w2, wS (k := k) (m := 31) (by omega) (by decide)]
      refine ⟨fun _ => ⟨⟨by omega, by omega⟩, ⟨by omega, by omega⟩, same_rr ht hu hi w3 ?_⟩, fun h => absurd (by omega) h⟩
      by_cases e : vl u n i = vl u n (W k)
      · rw [if_pos e]
        rw [if_pos e.symm] at hq
        exact ⟨fun c => absurd c (by decide), fun _ => hq⟩
      · rw [if_neg e]
        rw [if_neg (fun h => e h.symm)] at hq
        exact ⟨fun _ => ih (k + 1) (by omega) hq, fun c => absurd rfl c⟩
  exact w_216 (lp c 0 (Nat.zero_add c) hq)
theorem fnOf_rr {t : Int} {d : Nat} {v : Mem} {Q : Int → Mem → Prop} {u : Nat → Int} {n i c : Nat} {W : Nat → Nat} (ht : TXT 40 v n) (hu : uB (v 40) n = u) (hi : kd u n i = 2) (hc : v 38 13 = c) (hc2 : c ≤ 20) (hW : NR v u n 41 42 c W) (hq : Q (fndA (fun k => vl u n (W k)) (vl u n i) c 0) v) : RR t (d + 1) 218 [(2, 38), (0, (ps u n i : Int)), (0, ln u n i)] v Q := by
  have lp : ∀ (m k : Nat), k + m = c → Q (fndA (fun k => vl u n (W k)) (vl u n i) m k) v → LL t (d + 1) 218 2 [(2, 38), (0, (ps u n i : Int)), (0, ln u n i), (0, (k : Int))] [] v Q := by
    intro m
    induction m with
    | zero =>
      intro k hk hq
      refine s_218_2 ?_
      rw [hc]
      exact ⟨fun h => absurd h (by omega), fun _ => hq⟩
    | succ m ih =>
      intro k hk hq
      have hq : Q (if vl u n (W k) = vl u n i then (k : Int) else fndA (fun k => vl u n (W k)) (vl u n i) m (k + 1)) v := hq
      obtain ⟨w1, w2, w3⟩ := hW k (by omega)
      refine s_218_2 ?_
      rw [hc, Int.toNat_natCast, w1, w2, wS (k := k) (m := 21) (by omega) (by decide)]
      refine ⟨fun _ => ⟨⟨by omega, by omega⟩, ⟨by omega, by omega⟩, same_rr ht hu hi w3 ?_⟩, fun h => absurd (by omega) h⟩
      by_cases e : vl u n i = vl u n (W k)
      · rw [if_pos e]
        rw [if_pos e.symm] at hq
        exact ⟨fun c => absurd c (by decide), fun _ => hq⟩
      · rw [if_neg e]
        rw [if_neg (fun h => e h.symm)] at hq
        exact ⟨fun _ => ih (k + 1) (by omega) hq, fun c => absurd rfl c⟩
  exact w_218 (lp c 0 (Nat.zero_add c) hq)
