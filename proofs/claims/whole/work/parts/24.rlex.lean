/-! The reference's words. -/
def kwS : List Int := sB.getD 4 []
theorem isW4 {t : Int} {d : Nat} {v : Mem} {Q : Int → Mem → Prop} {f to a : Nat} (h1 : f ≤ to) (h2 : to ≤ 3200) (h3 : a ≤ 100) (hq : Q (b2i (isWB kwS (v 40) (to - f) f a)) v) : RR t (d + 4) 187 [(2, 38), (0, (f : Int)), (0, (to : Int)), (2, (-6)), (0, (a : Int))] v Q :=
  w_187_s4 (isWord_lp (s := kwS) (N := 75) rfl (a := a) rfl h2 h3 (fun {l5} h => s_187_s4_3 h) (to - f) f a (by omega) (Nat.le_refl _) (by omega) hq)
def lpK (b : Nat → Int) (f m : Nat) : Nat → Nat → Bool
  | 0, _ => false
  | r + 1, l => (decide (kwS.getD l 0 = 32) && isWB kwS b m f (l + 1) && decide (kwS.getD (l + 1 + m) 0 = 32)) || lpK b f m r (l + 1)
theorem lpK_iff {b : Nat → Int} {f m : Nat} : ∀ (r l : Nat), lpK b f m r l = true ↔ ∃ i, i < r ∧ kwS.getD (l + i) 0 = 32 ∧ isWB kwS b m f (l + i + 1) = true ∧ kwS.getD (l + i + 1 + m) 0 = 32 := by
  intro r
  induction r with
  | zero => intro l; exact ⟨fun h => Bool.noConfusion h, fun ⟨i, hi, _⟩ => absurd hi (Nat.not_lt_zero i)⟩
  | succ r ih =>
    intro l
    show ((decide (kwS.getD l 0 = 32) && isWB kwS b m f (l + 1) && decide (kwS.getD (l + 1 + m) 0 = 32)) || lpK b f m r (l + 1)) = true ↔ _
    rw [Bool.or_eq_true, Bool.and_eq_true, Bool.and_eq_true, decide_eq_true_eq, decide_eq_true_eq, ih]
    constructor
    · rintro (⟨⟨h1, h2⟩, h3⟩ | ⟨i, h0, h1, h2, h3⟩)
      · exact ⟨0, by omega, h1, h2, h3⟩
      · refine ⟨i + 1, by omega, ?_⟩
        rw [show l + (i + 1) = l + 1 + i by omega]
        exact ⟨h1, h2, h3⟩
    · rintro ⟨i, h0, h1, h2, h3⟩
      cases i with
      | zero => exact Or.inl ⟨⟨h1, h2⟩, h3⟩
      | succ i =>
        refine Or.inr ⟨i, by omega, ?_⟩
        rw [show l + 1 + i = l + (i + 1) by omega]
        exact ⟨h1, h2, h3⟩
theorem isKw_lp {t : Int} {d : Nat} {v : Mem} {Q : Int → Mem → Prop} {f to : Nat} (h1 : f ≤ to) (h2 : to ≤ 3200) : ∀ (r l : Nat), (r = 0 → 74 ≤ (to - f) + l) → (0 < r → r + l + (to - f) = 74) → l ≤ 74 → Q (b2i (lpK (v 40) f (to - f) r l)) v → LL t (d + 5) 188 2 [(2, 38), (0, (f : Int)), (0, (to : Int)), (0, (l : Int))] [] v Q := by
  intro r
  induction r with
  | zero =>
    intro l hr _ hl hq
    have e1 : w32 ((to : Int) - (f : Int)) = ((to - f : Nat) : Int) := wNat (by omega) (by omega)
    refine s_188_2 (d := d + 1) ?_
    rw [e1]
    have e2 : w32 (75 - ((to - f : Nat) : Int)) = 75 - ((to - f : Nat) : Int) := w32_id (by omega) (by omega)
    have e3 : w32 (75 - ((to - f : Nat) : Int) - 1) = 74 - ((to - f : Nat) : Int) := by rw [w32_id (by omega) (by omega)]; omega
    rw [e2, e3]
    exact ⟨fun c => absurd (hr rfl) (by omega), fun _ => hq⟩
  | succ r ih =>
    intro l _ hr hl hq
    have hr := hr (by omega)
    have e1 : w32 ((to : Int) - (f : Int)) = ((to - f : Nat) : Int) := wNat (by omega) (by omega)
    refine s_188_2 (d := d + 1) ?_
    rw [e1]
    have e2 : w32 (75 - ((to - f : Nat) : Int)) = 75 - ((to - f : Nat) : Int) := w32_id (by omega) (by omega)
    have e3 : w32 (75 - ((to - f : Nat) : Int) - 1) = 74 - ((to - f : Nat) : Int) := by rw [w32_id (by omega) (by omega)]; omega
    have e4 : w32 ((l : Int) + 1) = ((l + 1 : Nat) : Int) := wNat (by omega) (by omega)
    have e5 : w32 (w32 (((l + 1 : Nat) : Int) + (to : Int)) - (f : Int)) = ((l + 1 + (to - f) : Nat) : Int) := by
      rw [w32_id (a := ((l + 1 : Nat) : Int) + (to : Int)) (by omega) (by omega)]
      exact wNat (by omega) (by omega)
    rw [e2, e3, e4, e5, Int.toNat_natCast, Int.toNat_natCast]
    have hq : Q (b2i ((decide (kwS.getD l 0 = 32) && isWB kwS (v 40) (to - f) f (l + 1) && decide (kwS.getD (l + 1 + (to - f)) 0 = 32)) || lpK (v 40) f (to - f) r (l + 1))) v := hq
    refine ⟨fun _ => ⟨⟨by omega, by omega⟩, fun c1 => ?_, fun c1 => ?_⟩, fun c => absurd c (by omega)⟩
    · have c1 : kwS.getD l 0 = 32 := c1
      rw [decide_eq_true c1, Bool.true_and] at hq
      refine isW4 (d := d) h1 h2 (by omega) ⟨fun c2 => ?_, fun c2 => ⟨⟨by omega, by omega⟩, fun c3 => ?_, fun c3 => ?_⟩⟩
      · rw [b2i_0.mp c2, Bool.false_and, Bool.false_or] at hq
        exact ih (l + 1) (fun e => by omega) (fun e => by omega) (by omega) hq
      · have c3 : kwS.getD (l + 1 + (to - f)) 0 = 32 := c3
        rw [b2i_ne.mp c2, decide_eq_true c3] at hq
        exact hq
      · have c3 : ¬ kwS.getD (l + 1 + (to - f)) 0 = 32 := c3
        rw [b2i_ne.mp c2, decide_eq_false c3, Bool.and_false, Bool.false_or] at hq
        exact ih (l + 1) (fun e => by omega) (fun e => by omega) (by omega) hq
    · have c1 : ¬ kwS.getD l 0 = 32 := c1
      rw [decide_eq_false c1, Bool.false_and, Bool.false_and, Bool.false_or] at hq
      exact ih (l + 1) (fun e => by omega) (fun e => by omega) (by omega) hq
theorem isKw_rr {t : Int} {d : Nat} {v : Mem} {Q : Int → Mem → Prop} {f to : Nat} (h1 : f ≤ to) (h2 : to ≤ 3200) (hq : Q (b2i (lpK (v 40) f (to - f) (74 - (to - f)) 0)) v) : RR t (d + 5) 188 [(2, 38), (0, (f : Int)), (0, (to : Int))] v Q :=
  w_188 (isKw_lp h1 h2 (74 - (to - f)) 0 (fun e => by omega) (fun e => by omega) (by omega) hq)
def kwC1 : Bool := (List.range 75).all fun l => !(kwS.getD l 0 == 32) || (List.range 75).all fun m => !(kwS.getD (l + 1 + m) 0 == 32) || (m == 0) || ((List.range m).any fun j => kwS.getD (l + 1 + j) 0 == 32) || kwL.contains ((kwS.drop (l + 1)).take m)
def kwC2 : Bool := kwL.all fun w => (List.range 75).any fun l => kwS.getD l 0 == 32 && kwS.getD (l + 1 + w.length) 0 == 32 && (kwS.drop (l + 1)).take w.length == w && decide (l + 1 + w.length < 75)
set_option maxRecDepth 100000 in
theorem kwC1_t : kwC1 = true := by decide +kernel
set_option maxRecDepth 100000 in
theorem kwC2_t : kwC2 = true := by decide +kernel
theorem kwT1 (l : Nat) (hl : l < 75) (h1 : kwS.getD l 0 = 32) (m : Nat) (hm : m < 75) (h2 : kwS.getD (l + 1 + m) 0 = 32) (h3 : 1 ≤ m) (h4 : ∀ j, j < m → ¬ kwS.getD (l + 1 + j) 0 = 32) : (kwS.drop (l + 1)).take m ∈ kwL := by
  have h := kwC1_t
  unfold kwC1 at h
  rw [List.all_eq_true] at h
  have h := h l (List.mem_range.mpr hl)
  rw [Bool.or_eq_true] at h
  rcases h with h | h
  · rw [h1] at h; exact absurd h (by decide)
  · rw [List.all_eq_true] at h
    have h := h m (List.mem_range.mpr hm)
    rw [Bool.or_eq_true, Bool.or_eq_true, Bool.or_eq_true] at h
    rcases h with ((h | h) | h) | h
    · rw [h2] at h; exact absurd h (by decide)
    · have := beq_iff_eq.mp h; omega
    · rw [List.any_eq_true] at h
      obtain ⟨j, hj, h⟩ := h
      exact absurd (beq_iff_eq.mp h) (h4 j (List.mem_range.mp hj))
    · exact List.contains_iff_mem.mp h
theorem kwT2 (w : List Int) (hw : w ∈ kwL) : ∃ l, l < 75 ∧ kwS.getD l 0 = 32 ∧ kwS.getD (l + 1 + w.length) 0 = 32 ∧ (kwS.drop (l + 1)).take w.length = w ∧ l + 1 + w.length < 75 := by
  have h := kwC2_t
  unfold kwC2 at h
  rw [List.all_eq_true] at h
  have h := h w hw
  rw [List.any_eq_true] at h
  obtain ⟨l, hl, h⟩ := h
  rw [Bool.and_eq_true, Bool.and_eq_true, Bool.and_eq_true] at h
  exact ⟨l, List.mem_range.mp hl, beq_iff_eq.mp h.1.1.1, beq_iff_eq.mp h.1.1.2, beq_iff_eq.mp h.1.2, of_decide_eq_true h.2⟩
theorem sl_at {s : List Int} {a m j : Nat} (hj : j < m) : ((s.drop a).take m).getD j 0 = s.getD (a + j) 0 := by
  simp only [List.getD, List.getElem?_take, List.getElem?_drop]
  rw [if_pos hj]
theorem kw_len : kwS.length = 75 := by decide +kernel
theorem kw_r (p : Nat) : 0 ≤ kwS.getD p 0 ∧ kwS.getD p 0 < 128 := chr_r 4 p
theorem isNm_32 {c : Int} (h : isNm c = true) : ¬ c = 32 := by
  intro e
  rw [e] at h
  exact absurd h (by decide)
theorem kw_iff {v : Mem} {n f m : Nat} (ht : TXT 40 v n) (hm : f + m ≤ n) (h1 : 1 ≤ m) (hn : ∀ j, j < m → isNm (uB (v 40) n (f + j)) = true) : lpK (v 40) f m (74 - m) 0 = true ↔ segU (uB (v 40) n) f m ∈ kwL := by
  have hc : ∀ p j, j < m → (kwS.getD p 0 = v 40 (f + j) ↔ kwS.getD p 0 = uB (v 40) n (f + j)) := by
    intro p j hj
    have h1 := kw_r p
    have h2 := ht.2 (f + j) (by omega)
    rw [uB_in (by omega)]
    omega
  rw [lpK_iff]
  constructor
  · rintro ⟨i, hi, a1, a2, a3⟩
    rw [Nat.zero_add] at a1 a2 a3
    rw [isWB_iff] at a2
    have hs : segU (uB (v 40) n) f m = (kwS.drop (i + 1)).take m := by
      refine segU_eq ?_ fun j hj => ?_
      · rw [List.length_take, List.length_drop, kw_len]
        omega
      · rw [sl_at hj]
        exact (hc _ j hj).mp (a2 j hj).2
    rw [hs]
    refine kwT1 i (by omega) a1 m (by omega) a3 h1 fun j hj => ?_
    rw [(hc _ j hj).mp (a2 j hj).2]
    exact isNm_32 (hn j hj)
  · intro h
    obtain ⟨l, b1, b2, b3, b4, b5⟩ := kwT2 _ h
    rw [segU_len] at b3 b4 b5
    refine ⟨l, by omega, ?_⟩
    rw [Nat.zero_add]
    refine ⟨b2, ?_, b3⟩
    rw [isWB_iff]
    intro j hj
    refine ⟨by rw [kw_len]; omega, (hc _ j hj).mpr ?_⟩
    rw [← segU_at (u := uB (v 40) n) m f j hj, ← b4, sl_at hj]
theorem isNm_or {c : Int} (h : isNm c = false) : isLt c = false ∧ isDg c = false := by
  unfold isNm at h
  exact Bool.or_eq_false_iff.mp h
theorem gd {v : Mem} {n k : Nat} (hs : v 38 3 = n) (hn : n ≤ 3200) : (k : Int) < v 38 3 → 0 ≤ (k : Int) ∧ (k : Int) < 3200 := fun h => by rw [hs] at h; omega
theorem nextName_rr {t : Int} {d : Nat} {v : Mem} {Q : Int → Mem → Prop} {n i : Nat} (hs : v 38 3 = n) (ht : TXT 40 v n) (hat : v 38 8 = i) (hlt : isLt (uB (v 40) n i) = true)
    (hq1 : en isNm (uB (v 40) n) n i - i ≤ 12 → Q 0 (up (up v 38 9 (rk (kwK (segU (uB (v 40) n) i (en isNm (uB (v 40) n) n i - i))))) 38 11 ((en isNm (uB (v 40) n) n i : Nat) : Int))) (hq2 : ¬ en isNm (uB (v 40) n) n i - i ≤ 12 → Q 0 v) : RR t (d + 6) 190 [(2, 38)] v Q := by
  have hin : i < n := p_lt (by decide) hlt
  have hn := ht.1
  have exit : ∀ k : Nat, i ≤ k → k ≤ n → (∀ j, i ≤ j → j < k → isNm (uB (v 40) n j) = true) → isNm (uB (v 40) n k) = false → en isNm (uB (v 40) n) n i = k → LL t (d + 6) 190 5 [(2, 38), (0, (k : Int))] [] v Q := by
    intro k hik hkn hj hno he
    obtain ⟨n1, n2⟩ := isNm_or hno
    have hik' : i ≠ k := fun e => by
      rw [← e] at n1
      rw [n1] at hlt
      cases hlt
    refine s_190_5 (d := d + 5) ?_
    rw [f186 hs ht, f184, f185, n1, n2, hat]
    refine ⟨gd hs hn, fun _ => ⟨gd hs hn, fun _ => ?_, fun c => absurd rfl c⟩, fun c => absurd rfl c⟩
    refine isKw_rr (by omega) (by omega) ?_
    have hki := kw_iff ht (f := i) (m := k - i) (by omega) (by omega) (fun j hj2 => hj (i + j) (by omega) (by omega))
    rw [he] at hq1 hq2
    have e1 : w32 ((k : Int) - v 38 8) = ((k - i : Nat) : Int) := wNat (by rw [hat]; omega) (by omega)
    rw [e1]
    refine ⟨fun c => ?_, fun c => ?_⟩
    · have hk : kwK (segU (uB (v 40) n) i (k - i)) = 2 := by
        rcases kwK_or (segU (uB (v 40) n) i (k - i)) with h | h
        · exact h.1
        · rw [hki.mpr h.2.1] at c
          exact absurd c (by decide)
      rw [hk] at hq1
      refine ⟨fun c2 => hq2 (by omega), fun c2 => hq1 (by omega)⟩
    · have hm := hki.mp (b2i_ne.mp c)
      have hk : rk (kwK (segU (uB (v 40) n) i (k - i))) = 5 := by
        rcases kwK_or (segU (uB (v 40) n) i (k - i)) with h | h
        · exact absurd hm h.2
        · unfold rk
          rw [if_neg (by omega), if_pos h.2.2.1]
      rw [hk] at hq1
      refine hq1 ?_
      have key : ∀ w ∈ kwL, w.length ≤ 12 := by decide
      have := key _ hm
      rw [segU_len] at this
      exact this
  have lp : ∀ (f k : Nat), k + f = n → i ≤ k → (∀ j, i ≤ j → j < k → isNm (uB (v 40) n j) = true) → en isNm (uB (v 40) n) n i = en isNm (uB (v 40) n) n k → LL t (d + 6) 190 5 [(2, 38), (0, (k : Int))] [] v Q := by
    intro f
    induction f with
    | zero =>
      intro k hk hik hj he
      have h0 : isNm (uB (v 40) n k) = false := by rw [uB_out (by omega)]; decide
      exact exit k hik (by omega) hj h0 (by rw [he, en_stop h0])
    | succ f ih =>
      intro k hk hik hj he
      cases h0 : isNm (uB (v 40) n k) with
      | false => exact exit k hik (by omega) hj h0 (by rw [he, en_stop h0])
      | true =>
        have hnext : LL t (d + 6) 190 5 [(2, 38), (0, ((k + 1 : Nat) : Int))] [] v Q := by
          refine ih (k + 1) (by omega) (by omega) (fun j h1 h2 => ?_) (by rw [he, en_go h0 (by omega)])
          by_cases hjk : j = k
          · rw [hjk]; exact h0
          · exact hj j h1 (by omega)
        have e2 : w32 ((k : Int) + 1) = ((k + 1 : Nat) : Int) := wNat (by omega) (by omega)
        refine s_190_5 (d := d + 5) ?_
        rw [f186 hs ht, f184, f185, e2]
        refine ⟨gd hs hn, fun c => ⟨gd hs hn, fun c2 => ?_, fun _ => hnext⟩, fun _ => hnext⟩
        unfold isNm at h0
        rw [b2i_0.mp c, b2i_0.mp c2] at h0
        cases h0
  refine w_190 ?_
  rw [hat]
  exact lp (n - i) i (by omega) (Nat.le_refl _) (fun j h1 h2 => by omega) rfl
theorem f277 {a b : Int} {v : Mem} : f_277 a b v = min a b := by
  unfold f_277 lcm3
  by_cases h1 : a < b
  · rw [if_pos h1, if_neg (by decide)]; omega
  · by_cases h2 : b < a
    · rw [if_neg h1, if_pos h2, if_pos (by decide)]; omega
    · rw [if_neg h1, if_neg h2, if_neg (by decide)]; omega
theorem lcm3_pos {a b : Int} : 0 < lcm3 a b ↔ b < a := by
  unfold lcm3
  by_cases h1 : a < b
  · rw [if_pos h1]; omega
  · by_cases h2 : b < a
    · rw [if_neg h1, if_pos h2]; omega
    · rw [if_neg h1, if_neg h2]; omega
theorem isDg_r {c : Int} : isDg c = true ↔ 48 ≤ c ∧ c ≤ 57 := by unfold isDg; exact decide_eq_true_iff
theorem nextNumber_rr {t : Int} {d : Nat} {v : Mem} {Q : Int → Mem → Prop} {n i : Nat} (hs : v 38 3 = n) (ht : TXT 40 v n) (hat : v 38 8 = i) (hi : i ≤ n)
    (hq1 : numA (uB (v 40) n) 0 i (en isDg (uB (v 40) n) n i - i) ≤ 2147483647 → Q 0 (up (up (up v 38 9 3) 38 12 (numA (uB (v 40) n) 0 i (en isDg (uB (v 40) n) n i - i))) 38 11 ((en isDg (uB (v 40) n) n i : Nat) : Int))) (hq2 : ¬ numA (uB (v 40) n) 0 i (en isDg (uB (v 40) n) n i - i) ≤ 2147483647 → Q 0 v) : RR t (d + 2) 191 [(2, 38)] v Q := by
  have hn := ht.1
  have exit : ∀ (k : Nat) (acc : Int), i ≤ k → k ≤ n → 0 ≤ acc → isDg (uB (v 40) n k) = false → en isDg (uB (v 40) n) n i = k → numA (uB (v 40) n) 0 i (en isDg (uB (v 40) n) n i - i) = acc → LL t (d + 2) 191 7 [(2, 38), (1, min acc 1099511627776), (3, 0), (0, (k : Int))] [] v Q := by
    intro k acc hik hkn h0 hno he ha
    refine s_191_7 (d := d + 1) ?_
    rw [f186 hs ht, f185, hno]
    rw [ha, he] at hq1
    rw [ha] at hq2
    refine ⟨gd hs hn, fun _ => ⟨fun c => ?_, fun c => ?_⟩, fun c => absurd rfl c⟩
    · have := lcm3_pos.mp c
      exact hq2 (by omega)
    · have : ¬ 2147483647 < min acc 1099511627776 := fun h => c (lcm3_pos.mpr h)
      have e : w32 (min acc 1099511627776) = acc := by rw [show min acc 1099511627776 = acc by omega, w32_id (by omega) (by omega)]
      rw [e]
      exact hq1 (by omega)
  have lp : ∀ (f k : Nat) (acc : Int), k + f = n → i ≤ k → 0 ≤ acc → en isDg (uB (v 40) n) n i = en isDg (uB (v 40) n) n k → numA (uB (v 40) n) 0 i (en isDg (uB (v 40) n) n i - i) = numA (uB (v 40) n) acc k (en isDg (uB (v 40) n) n k - k) → LL t (d + 2) 191 7 [(2, 38), (1, min acc 1099511627776), (3, 0), (0, (k : Int))] [] v Q := by
    intro f
    induction f with
    | zero =>
      intro k acc hk hik h0 he ha
      have hd : isDg (uB (v 40) n k) = false := by rw [uB_out (by omega)]; decide
      refine exit k acc hik (by omega) h0 hd (by rw [he, en_stop hd]) ?_
      rw [ha, en_stop hd, Nat.sub_self]
      rfl
    | succ f ih =>
      intro k acc hk hik h0 he ha
      cases hd : isDg (uB (v 40) n k) with
      | false =>
        refine exit k acc hik (by omega) h0 hd (by rw [he, en_stop hd]) ?_
        rw [ha, en_stop hd, Nat.sub_self]
        rfl
      | true =>
        have hr := isDg_r.mp hd
        have hge := en_b (p := isDg) (u := uB (v 40) n) (show k + 1 ≤ n by omega)
        have hnext := ih (k + 1) (acc * 10 + (uB (v 40) n k - 48)) (by omega) (by omega) (by omega) (by rw [he, en_go hd (by omega)]) (by
          rw [ha, en_go hd (by omega)]
          rw [show en isDg (uB (v 40) n) n (k + 1) - k = (en isDg (uB (v 40) n) n (k + 1) - (k + 1)) + 1 by omega]
          rfl)
        have e2 : w32 ((k : Int) + 1) = ((k + 1 : Nat) : Int) := wNat (by omega) (by omega)
        refine s_191_7 (d := d + 1) ?_
        rw [f186 hs ht, f185, e2, f277]
        have e3 : w64 (10 * min acc 1099511627776) = 10 * min acc 1099511627776 := w64_id (by omega) (by omega)
        have e4 : w64 (10 * min acc 1099511627776 + uB (v 40) n k) = 10 * min acc 1099511627776 + uB (v 40) n k := w64_id (by omega) (by omega)
        have e5 : w64 (10 * min acc 1099511627776 + uB (v 40) n k - 48) = 10 * min acc 1099511627776 + uB (v 40) n k - 48 := w64_id (by omega) (by omega)
        rw [e3, e4, e5, show min (10 * min acc 1099511627776 + uB (v 40) n k - 48) 1099511627776 = min (acc * 10 + (uB (v 40) n k - 48)) 1099511627776 by omega]
        exact ⟨gd hs hn, fun c => absurd (b2i_0.mp c) (by rw [hd]; decide), fun _ => ⟨gd hs hn, hnext⟩⟩
  refine w_191 ?_
  rw [hat]
  exact lp (n - i) i 0 (by omega) (Nat.le_refl _) (by omega) rfl rfl
