/-! The class's words: signs, any word, all words. -/
def sL1 : List Int := sB.getD 1 []
theorem sL1_len : sL1.length = 18 := by decide +kernel
theorem sL1_mem {c : Int} : c ∈ sL1 ↔ ∃ j, j < 18 ∧ sL1.getD j 0 = c := by
  constructor
  · intro h
    obtain ⟨j, hj, e⟩ := List.mem_iff_getElem.mp h
    refine ⟨j, by rw [← sL1_len]; exact hj, ?_⟩
    rw [← e]
    simp [List.getD, List.getElem?_eq_getElem hj]
  · rintro ⟨j, hj, rfl⟩
    have hj : j < sL1.length := by rw [sL1_len]; exact hj
    have e : sL1.getD j 0 = sL1[j] := by simp [List.getD, List.getElem?_eq_getElem hj]
    rw [e]
    exact List.getElem_mem hj
theorem sL1_r (j : Nat) : 0 ≤ sL1.getD j 0 ∧ sL1.getD j 0 < 128 := chr_r 1 j
theorem idx1 {t : Int} {d : Nat} {c : Int} {v : Mem} {Q : Int → Mem → Prop} (h0 : 0 ≤ c) (h1 : c < 256) (hq1 : ∀ x, c ∈ sL1 → 0 ≤ x → Q x v) (hq2 : c ∉ sL1 → Q (-1) v) : RR t (d + 5) 264 [(2, (-3)), (0, c)] v Q := by
  have lp : ∀ (m l : Nat), l + m = 18 → (∀ j, j < l → ¬ sL1.getD j 0 = c) → LL t (d + 1) 272 7 [(2, (-47)), (3, 0), (3, 0), (0, 18), (0, w8 c), (0, (l : Int))] [] v Q := by
    intro m
    induction m with
    | zero =>
      intro l hl hj
      refine w_272_s45_7 ⟨fun c2 => absurd c2 (by omega), fun _ => hq2 fun hm => ?_⟩
      obtain ⟨j, hj1, hj2⟩ := sL1_mem.mp hm
      exact hj j (by omega) hj2
    | succ m ih =>
      intro l hl hj
      have e2 : w32 ((l : Int) + 1) = ((l + 1 : Nat) : Int) := wNat (by omega) (by omega)
      refine w_272_s45_7 ?_
      rw [e2, Int.toNat_natCast]
      refine ⟨fun _ => ⟨⟨by omega, by omega⟩, fun c2 => ?_, fun c2 => ?_⟩, fun c2 => absurd (by omega) c2⟩
      · have c3 : sL1.getD l 0 = c := (w8_eq h0 h1 (sL1_r l)).mp c2
        exact hq1 l (sL1_mem.mpr ⟨l, by omega, c3⟩) (by omega)
      · refine ih (l + 1) (by omega) fun j hj2 => ?_
        by_cases hjl : j = l
        · rw [hjl]
          exact fun e => c2 ((w8_eq h0 h1 (sL1_r l)).mpr e)
        · exact hj j (by omega)
  refine w_264_s1 (d := d + 4) (RR.imp (s_265_s1 (d := d + 2) (RR.imp (s_271_s45 (d := d + 2) ⟨fun c2 => absurd c2 (by omega), fun _ => ⟨fun c2 => absurd c2 (by omega), fun _ => ⟨fun _ => ?_, fun c2 => absurd (show f_275 0 0 v < f_276 18 18 v by
    show (if (0 : Int) < 0 then (0 : Int) else 0) < (if (18 : Int) < 18 then (18 : Int) else 18)
    decide) c2⟩⟩⟩) (fun _ _ h => h))) (fun _ _ h => h))
  refine RR.deep (d := d + 1) ?_ (by omega)
  exact w_272_s45 (lp 18 0 rfl (fun j hj => by omega))
theorem isSg_1 {c : Int} : isSg c = true ↔ c ∈ sL1 := by
  unfold isSg
  rw [List.contains_iff_mem]
  have e : sL1 = [40, 41, 123, 125, 91, 93, 44, 58, 59, 61, 43, 45, 42, 47, 37, 38, 33, 60] := by decide +kernel
  rw [e]
theorem sL1_c : ∀ c ∈ sL1, (32 : Int) ≤ c ∧ c ≤ 126 := by decide +kernel
/-- where the class goes on behind the word at p -/
def toC (u : Nat → Int) (n p : Nat) : Nat := if (wordAt u n p).1 = 1 then n else (wordAt u n p).2.1
theorem w_add {i m : Nat} {a : Int} (ha : a = i) (hi : i ≤ 5000) (hm : m ≤ 10) : w32 (a + m) = ((i + m : Nat) : Int) := wNat (by omega) (by omega)
theorem takeSign_two {d : Nat} {v : Mem} {Q : Int → Mem → Prop} {n i c : Nat} (hs : v 23 5 = n) (ht : TXT 12 v n) (hn : n ≤ 3000) (hat : v 23 6 = i) (hc : v 23 7 = c) (hc2 : c < 3002) (hi : i < n) (h3 : uB (v 12) n i = 61 ∨ uB (v 12) n i = 33 ∨ uB (v 12) n i = 60)
    (hq : Q 0 (if u61 : uB (v 12) n (i + 1) = 61 then wrow v c (128 + uB (v 12) n i) i 0 ((i + 2 : Nat) : Int) else wrow v c (uB (v 12) n i) i 0 ((i + 1 : Nat) : Int))) : LL 12 (d + 1) 164 47 [(2, 23), (0, uB (v 12) n i)] [] v Q := by
  have hi5 : i ≤ 5000 := Nat.le_of_lt (Nat.lt_of_lt_of_le hi (Nat.le_trans hn (by decide)))
  have e1 : w32 (v 23 6 + 1) = ((i + 1 : Nat) : Int) := w_add (m := 1) hat hi5 (by decide)
  have e2 : w32 (v 23 6 + 2) = ((i + 2 : Nat) : Int) := w_add (m := 2) hat hi5 (by decide)
  have e3 : w32 (128 + uB (v 12) n i) = 128 + uB (v 12) n i := w32_id (by omega) (by omega)
  refine s_164_47 (d := d) ?_
  rw [m166_6 hc hc2, m166_6 hc hc2, e1, e2, e3, f167 hs ht, m166 hc hc2, m166 hc hc2, hat]
  refine ⟨fun h => ?_, fun h => ?_⟩
  · rw [dif_pos h] at hq; exact hq
  · rw [dif_neg h] at hq; exact hq
theorem takeSign_rr {d : Nat} {v : Mem} {Q : Int → Mem → Prop} {n i c : Nat} (hs : v 23 5 = n) (ht : TXT 12 v n) (hn : n ≤ 3000) (hat : v 23 6 = i) (hc : v 23 7 = c) (hc2 : c < 3002) (hi : i < n) (hl : isLt (uB (v 12) n i) = false) (hd : isDg (uB (v 12) n i) = false) (hqt : ¬ uB (v 12) n i = 34)
    (hq : Q 0 (wrow v c (wordAt (uB (v 12) n) n i).1 i (wordAt (uB (v 12) n) n i).2.2 ((toC (uB (v 12) n) n i : Nat) : Int))) : RR 12 (d + 7) 164 [(2, 23), (0, uB (v 12) n i)] v Q := by
  have hu := uB_r (v 12) n i
  have h0 : ¬ uB (v 12) n i < 0 := by rw [uB_in hi]; omega
  have hi5 : i ≤ 5000 := Nat.le_of_lt (Nat.lt_of_lt_of_le hi (Nat.le_trans hn (by decide)))
  have hw : isSg (uB (v 12) n i) = false → wordAt (uB (v 12) n) n i = (1, i, 0) := fun h => by
    unfold wordAt
    rw [if_neg h0, hl, if_neg (by decide), hd, if_neg (by decide), if_neg hqt, h, if_neg (by decide)]
  have bad : isSg (uB (v 12) n i) = false → Q 0 (up (m_166 1 (v 23 6) 0 v) 23 6 (m_166 1 (v 23 6) 0 v 23 5)) := fun h => by
    unfold toC at hq
    rw [hw h, if_pos rfl] at hq
    rw [m166_5 hc hc2, m166 hc hc2, hs, hat]
    exact hq
  have hw2 : isSg (uB (v 12) n i) = true → wordAt (uB (v 12) n) n i = (if (uB (v 12) n i = 61 ∨ uB (v 12) n i = 33 ∨ uB (v 12) n i = 60) ∧ uB (v 12) n (i + 1) = 61 then (128 + uB (v 12) n i, i + 2, 0) else (uB (v 12) n i, i + 1, 0)) := fun h => by
    unfold wordAt
    rw [if_neg h0, hl, if_neg (by decide), hd, if_neg (by decide), if_neg hqt, if_pos h]
  have nsg : uB (v 12) n i ∉ sL1 → isSg (uB (v 12) n i) = false := fun h => by
    cases hz : isSg (uB (v 12) n i) with
    | false => rfl
    | true => exact absurd (isSg_1.mp hz) h
  refine s_164 (d := d + 5) ⟨fun h => bad (nsg (fun hm => absurd (sL1_c _ hm).1 (Int.not_le.mpr h))), fun h32 => ⟨fun h => bad (nsg (fun hm => absurd (sL1_c _ hm).2 (Int.not_le.mpr h))), fun h126 => ?_⟩⟩
  have e16 : w16u (uB (v 12) n i) = uB (v 12) n i := by unfold w16u; omega
  rw [e16]
  refine idx1 (d := d + 1) (by omega) (by omega) (fun x hm hx => ⟨fun h => absurd hx (Int.not_le.mpr h), fun _ => ?_⟩) (fun hm => ⟨fun _ => bad (nsg hm), fun h => absurd (by decide) h⟩)
  have hc9 := sL1_c _ hm
  have hsg := isSg_1.mpr hm
  have two : (uB (v 12) n i = 61 ∨ uB (v 12) n i = 33 ∨ uB (v 12) n i = 60) → LL 12 (d + 7) 164 47 [(2, 23), (0, uB (v 12) n i)] [] v Q := fun h3 => by
    refine takeSign_two (d := d + 6) hs ht hn hat hc hc2 hi h3 ?_
    unfold toC at hq
    rw [hw2 hsg] at hq
    by_cases h6 : uB (v 12) n (i + 1) = 61
    · rw [if_pos ⟨h3, h6⟩] at hq
      rw [dif_pos h6]
      dsimp only at hq
      rw [if_neg (by omega)] at hq
      exact hq
    · rw [if_neg (fun h => h6 h.2)] at hq
      rw [dif_neg h6]
      dsimp only at hq
      rw [if_neg (by omega)] at hq
      exact hq
  refine ⟨fun h => two (Or.inl h), fun n1 => ⟨fun h => two (Or.inr (Or.inl h)), fun n2 => ⟨fun h => two (Or.inr (Or.inr h)), fun n3 => ?_⟩⟩⟩
  unfold toC at hq
  rw [hw2 hsg, if_neg (fun h => by rcases h.1 with h | h | h <;> contradiction)] at hq
  dsimp only at hq
  rw [if_neg (by omega)] at hq
  have e1 : w32 (v 23 6 + 1) = ((i + 1 : Nat) : Int) := w_add (m := 1) hat hi5 (by decide)
  rw [m166_6 hc hc2, e1, m166 hc hc2, hat]
  exact hq
theorem takeWord_rr {d : Nat} {v : Mem} {Q : Int → Mem → Prop} {n i c : Nat} (hs : v 23 5 = n) (ht : TXT 12 v n) (hn : n ≤ 3000) (hat : v 23 6 = i) (hc : v 23 7 = c) (hc2 : c < 3002) (hk : KWI v) (hi : i < n)
    (hq1 : isBl (uB (v 12) n i) = true → Q 0 (up v 23 6 ((i + 1 : Nat) : Int)))
    (hq : isBl (uB (v 12) n i) = false → Q 0 (wrow v c (wordAt (uB (v 12) n) n i).1 i (wordAt (uB (v 12) n) n i).2.2 ((toC (uB (v 12) n) n i : Nat) : Int))) : RR 12 (d + 8) 159 [(2, 23)] v Q := by
  have hi5 : i ≤ 5000 := Nat.le_of_lt (Nat.lt_of_lt_of_le hi (Nat.le_trans hn (by decide)))
  have h0 : ¬ uB (v 12) n i < 0 := by rw [uB_in hi]; omega
  have e1 : w32 (v 23 6 + 1) = ((i + 1 : Nat) : Int) := w_add (m := 1) hat hi5 (by decide)
  have e0 : f_167 (v 23 6) v = uB (v 12) n i := by rw [hat, f167 hs ht]
  refine s_159 (d := d + 7) ?_
  rw [e0, e1, f168, f169]
  refine ⟨fun h => hq1 (by rw [h]; decide), fun h32 => ⟨fun h => hq1 (by rw [h]; decide), fun h10 => ?_⟩⟩
  have hb : isBl (uB (v 12) n i) = false := by unfold isBl; exact decide_eq_false (fun h => by rcases h with h | h <;> contradiction)
  have hq := hq hb
  refine ⟨fun cl => ⟨fun cd => ⟨fun cq => ?_, fun cq => ?_⟩, fun cd => ?_⟩, fun cl => ?_⟩
  · have hl := b2i_0.mp cl
    have hd := b2i_0.mp cd
    unfold toC wordAt at hq
    rw [if_neg h0, hl, if_neg (by decide), hd, if_neg (by decide), if_pos cq] at hq
    refine RR.deep (d := d + 3) (takeQuotes_rr hs ht hn hat hc hc2 hi (fun h => ?_) (fun h => ?_)) (by omega)
    · rw [if_pos h] at hq; exact hq
    · rw [if_neg h] at hq; exact hq
  · exact takeSign_rr hs ht hn hat hc hc2 hi (b2i_0.mp cl) (b2i_0.mp cd) cq hq
  · have hl := b2i_0.mp cl
    have hd := b2i_ne.mp cd
    unfold toC wordAt at hq
    rw [if_neg h0, hl, if_neg (by decide), if_pos hd] at hq
    refine RR.deep (d := d + 3) (takeNumber_rr hs ht hn hat hc hc2 (Nat.le_of_lt hi) (fun h => ?_) (fun h => ?_)) (by omega)
    · rw [if_pos h] at hq; exact hq
    · rw [if_neg h] at hq; exact hq
  · have hl := b2i_ne.mp cl
    unfold toC wordAt at hq
    rw [if_neg h0, if_pos hl] at hq
    refine RR.deep (d := d + 3) (takeName_rr hs ht hn hat hc hc2 hk hl (fun h => ?_) (fun h => ?_)) (by omega)
    · rw [if_pos h] at hq
      dsimp only at hq
      rcases kwK_or (segU (uB (v 12) n) i (en isNm (uB (v 12) n) n i - i)) with h9 | h9
      · rw [if_neg (by rw [h9.1]; decide)] at hq; exact hq
      · rw [if_neg (by omega)] at hq; exact hq
    · rw [if_neg h] at hq; exact hq
