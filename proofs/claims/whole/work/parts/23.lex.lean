/-! The words of a text, purely: u k is byte k (0 .. 255), -1 behind the end (n). -/
def isLt (c : Int) : Bool := decide (97 ≤ c ∧ c ≤ 122)
def isDg (c : Int) : Bool := decide (48 ≤ c ∧ c ≤ 57)
def isNm (c : Int) : Bool := isLt c || isDg c
def isQt (c : Int) : Bool := decide (32 ≤ c ∧ c ≤ 126 ∧ ¬ c = 34)
def isBl (c : Int) : Bool := decide (c = 10 ∨ c = 32)
def isSg (c : Int) : Bool := [40, 41, 123, 125, 91, 93, 44, 58, 59, 61, 43, 45, 42, 47, 37, 38, 33, 60].contains c
def b2i (b : Bool) : Int := bif b then 1 else 0
def sEnd (p : Int → Bool) (u : Nat → Int) : Nat → Nat → Nat
  | 0, k => k
  | f + 1, k => bif p (u k) then sEnd p u f (k + 1) else k
/-- the end of the row of bytes with p from k on -/
def en (p : Int → Bool) (u : Nat → Int) (n k : Nat) : Nat := sEnd p u (n - k) k
theorem en_go {p : Int → Bool} {u : Nat → Int} {n k : Nat} (h : p (u k) = true) (hk : k < n) : en p u n k = en p u n (k + 1) := by
  unfold en
  have e : n - k = (n - (k + 1)) + 1 := by omega
  rw [e]
  show (bif p (u k) then sEnd p u (n - (k + 1)) (k + 1) else k) = _
  rw [h]
  rfl
theorem en_stop {p : Int → Bool} {u : Nat → Int} {n k : Nat} (h : p (u k) = false) : en p u n k = k := by
  unfold en
  cases n - k with
  | zero => rfl
  | succ f =>
    show (bif p (u k) then sEnd p u f (k + 1) else k) = _
    rw [h]
    rfl
theorem en_end {p : Int → Bool} {u : Nat → Int} {n k : Nat} (h : n ≤ k) : en p u n k = k := by
  unfold en
  have e : n - k = 0 := by omega
  rw [e]
  rfl
theorem en_ge {p : Int → Bool} {u : Nat → Int} {n : Nat} : ∀ (f k : Nat), k + f = n → k ≤ en p u n k ∧ en p u n k ≤ n := by
  intro f
  induction f with
  | zero => intro k hk; rw [en_end (by omega)]; omega
  | succ f ih =>
    intro k hk
    cases h : p (u k) with
    | false => rw [en_stop h]; omega
    | true =>
      rw [en_go h (by omega)]
      have := ih (k + 1) (by omega)
      omega
theorem en_b {p : Int → Bool} {u : Nat → Int} {n k : Nat} (h : k ≤ n) : k ≤ en p u n k ∧ en p u n k ≤ n := en_ge (n - k) k (by omega)
def segU (u : Nat → Int) : Nat → Nat → List Int
  | _, 0 => []
  | k, m + 1 => u k :: segU u (k + 1) m
def numA (u : Nat → Int) : Int → Nat → Nat → Int
  | acc, _, 0 => acc
  | acc, k, m + 1 => numA u (acc * 10 + (u k - 48)) (k + 1) m
def dgt (c : Int) : Int := bif isLt c then c - 96 else bif isDg c then c - 21 else 0
def pkA (u : Nat → Int) : Int → Nat → Nat → Int
  | acc, _, 0 => acc
  | acc, k, m + 1 => pkA u (acc * 37 + dgt (u k)) (k + 1) m
def kwL : List (List Int) := [[97, 110, 100], [100, 105, 103, 105, 116, 115], [100, 111], [101, 108, 115, 101], [102, 105, 110, 100], [102, 110], [105, 102], [105, 110, 116], [108, 101, 110], [108, 101, 116], [111, 114], [112, 114, 105, 110, 116], [114, 101, 116, 117, 114, 110], [115, 105, 103, 110], [116, 101, 120, 116], [119, 104, 105, 108, 101]]
def kwF (w : List Int) : Int → List (List Int) → Int
  | _, [] => 2
  | c, k :: ks => if w = k then c else kwF w (c + 1) ks
/-- what a row of letters and digits is: a keyword's number, or 2: a NAME -/
def kwK (w : List Int) : Int := kwF w 10 kwL
/-- the word at i (no blank): its kind, its end, its value -/
def wordAt (u : Nat → Int) (n i : Nat) : Int × Nat × Int :=
  if u i < 0 then (0, i, 0)
  else if isLt (u i) = true then (if en isNm u n i - i ≤ 12 then (kwK (segU u i (en isNm u n i - i)), en isNm u n i, pkA u 0 i (en isNm u n i - i)) else (1, i, 0))
  else if isDg (u i) = true then (if numA u 0 i (en isDg u n i - i) ≤ 2147483647 then (3, en isDg u n i, numA u 0 i (en isDg u n i - i)) else (1, i, 0))
  else if u i = 34 then (if u (en isQt u n (i + 1)) = 34 ∧ en isQt u n (i + 1) - i - 1 ≤ 100 then (4, en isQt u n (i + 1) + 1, ((en isQt u n (i + 1) - i - 1 : Nat) : Int)) else (1, i, 0))
  else if isSg (u i) = true then (if (u i = 61 ∨ u i = 33 ∨ u i = 60) ∧ u (i + 1) = 61 then (128 + u i, i + 2, 0) else (u i, i + 1, 0))
  else (1, i, 0)
/-- the reference's kind of a word -/
def rk (k : Int) : Int := if k < 10 then k else if k < 26 then 5 else 6
/-- the text's bytes -/
def uB (b : Nat → Int) (n : Nat) (k : Nat) : Int := if k < n then b k % 256 else -1
def TXT (c : Nat) (v : Mem) (n : Nat) : Prop := n ≤ 3200 ∧ ∀ k, k < n → -128 ≤ v c k ∧ v c k < 128
theorem uB_in {b : Nat → Int} {n k : Nat} (h : k < n) : uB b n k = b k % 256 := by unfold uB; rw [if_pos h]
theorem uB_out {b : Nat → Int} {n k : Nat} (h : n ≤ k) : uB b n k = -1 := by unfold uB; rw [if_neg (by omega)]
theorem uB_r (b : Nat → Int) (n k : Nat) : -1 ≤ uB b n k ∧ uB b n k < 256 := by
  unfold uB
  split <;> omega
theorem uB_lt {b : Nat → Int} {n k : Nat} (h : ¬ uB b n k < 0) : k < n := by
  unfold uB at h
  split at h
  · assumption
  · omega
theorem p_lt {b : Nat → Int} {n k : Nat} {p : Int → Bool} (hp : p (-1) = false) (h : p (uB b n k) = true) : k < n := by
  by_cases hk : k < n
  · exact hk
  · rw [uB_out (by omega), hp] at h
    cases h
theorem segU_len (u : Nat → Int) (m : Nat) : ∀ k, (segU u k m).length = m := by
  induction m with
  | zero => intro k; rfl
  | succ m ih => intro k; show (segU u (k + 1) m).length + 1 = m + 1; rw [ih]
theorem b2i_ne {b : Bool} : (¬ b2i b = 0) ↔ b = true := by cases b <;> decide
theorem b2i_0 {b : Bool} : b2i b = 0 ↔ b = false := by cases b <;> decide
/-! the reference: bytes -/
theorem f186 {v : Mem} {n k : Nat} (hs : v 38 3 = n) (ht : TXT 40 v n) : f_186 (k : Int) v = uB (v 40) n k := by
  unfold f_186 uB
  rw [hs]
  by_cases h : k < n
  · rw [if_pos (by omega), if_pos h, Int.toNat_natCast]
    have := ht.2 k h
    exact iand_255 (by omega) (by omega)
  · rw [if_neg (by omega), if_neg h]
theorem f184 {c : Int} {v : Mem} : f_184 c v = b2i (isLt c) := by
  unfold f_184 isLt
  by_cases h1 : c < 97
  · rw [if_pos h1, decide_eq_false (by omega)]; rfl
  · by_cases h2 : 122 < c
    · rw [if_neg h1, if_pos h2, decide_eq_false (by omega)]; rfl
    · rw [if_neg h1, if_neg h2, decide_eq_true (by omega)]; rfl
theorem f185 {c : Int} {v : Mem} : f_185 c v = b2i (isDg c) := by
  unfold f_185 isDg
  by_cases h1 : c < 48
  · rw [if_pos h1, decide_eq_false (by omega)]; rfl
  · by_cases h2 : 57 < c
    · rw [if_neg h1, if_pos h2, decide_eq_false (by omega)]; rfl
    · rw [if_neg h1, if_neg h2, decide_eq_true (by omega)]; rfl
theorem wNat {k : Nat} {a : Int} (h : a = (k : Int)) (hk : k < 2147483648) : w32 a = (k : Int) := by
  rw [h, w32_id (by omega) (by omega)]
/-! isWord -/
def isWB (s : List Int) (b : Nat → Int) : Nat → Nat → Nat → Bool
  | 0, _, _ => true
  | m + 1, k, p => decide (p < s.length) && decide (s.getD p 0 = b k) && isWB s b m (k + 1) (p + 1)
theorem isWord_lp {t : Int} {D : Nat} {v : Mem} {Q : Int → Mem → Prop} {sr : Int} {s : List Int} {N : Int} (hN : N = (s.length : Nat)) {fr to : Nat} {a : Nat} {A : Int} (hA : A = (a : Int)) (hto : to ≤ 3200) (ha : a ≤ 100)
    (row : ∀ {l5 : Int}, ((l5 < (to : Int) → (((w32 ((w32 (A + l5)) - (fr : Int))) < N → ((0 ≤ (w32 ((w32 (A + l5)) - (fr : Int))) ∧ (w32 ((w32 (A + l5)) - (fr : Int))) < N) ∧ ((0 ≤ l5 ∧ l5 < 3200) ∧ (((List.getD s (Int.toNat (w32 ((w32 (A + l5)) - (fr : Int)))) 0) = (v 40 (Int.toNat l5)) → LL t D 187 3 [(2, 38), (0, (fr : Int)), (0, (to : Int)), (2, sr), (0, A), (0, (w32 (l5 + 1)))] [] v Q) ∧ (¬ (List.getD s (Int.toNat (w32 ((w32 (A + l5)) - (fr : Int)))) 0) = (v 40 (Int.toNat l5)) → Q 0 v))))) ∧ (¬ (w32 ((w32 (A + l5)) - (fr : Int))) < N → Q 0 v))) ∧ (¬ l5 < (to : Int) → Q 1 v)) → LL t D 187 3 [(2, 38), (0, (fr : Int)), (0, (to : Int)), (2, sr), (0, A), (0, l5)] [] v Q) :
    ∀ (m k p : Nat), k + m = to → fr ≤ k → p + fr = a + k → Q (b2i (isWB s (v 40) m k p)) v → LL t D 187 3 [(2, 38), (0, (fr : Int)), (0, (to : Int)), (2, sr), (0, A), (0, (k : Int))] [] v Q := by
  subst hA
  intro m
  induction m with
  | zero =>
    intro k p hk _ _ hq
    exact row ⟨fun c => absurd c (by omega), fun _ => hq⟩
  | succ m ih =>
    intro k p hk hf hp hq
    have e1 : w32 ((w32 ((a : Int) + (k : Int))) - (fr : Int)) = (p : Int) := by
      rw [w32_id (a := (a : Int) + (k : Int)) (by omega) (by omega)]
      exact wNat (by omega) (by omega)
    have e2 : w32 ((k : Int) + 1) = ((k + 1 : Nat) : Int) := wNat (by omega) (by omega)
    refine row ⟨fun _ => ?_, fun c => absurd (by omega) c⟩
    rw [e1, e2, Int.toNat_natCast, Int.toNat_natCast, hN]
    have hq : Q (b2i (decide (p < s.length) && decide (s.getD p 0 = v 40 k) && isWB s (v 40) m (k + 1) (p + 1))) v := hq
    refine ⟨fun c => ⟨⟨by omega, c⟩, ⟨by omega, by omega⟩, fun c2 => ?_, fun c2 => ?_⟩, fun c => ?_⟩
    · refine ih (k + 1) (p + 1) (by omega) (by omega) (by omega) ?_
      rw [decide_eq_true (by omega), decide_eq_true c2] at hq
      exact hq
    · rw [decide_eq_false c2, Bool.and_false] at hq
      exact hq
    · rw [decide_eq_false (by omega)] at hq
      exact hq
theorem isWB_iff {s : List Int} {b : Nat → Int} : ∀ (m k p : Nat), isWB s b m k p = true ↔ ∀ j, j < m → p + j < s.length ∧ s.getD (p + j) 0 = b (k + j) := by
  intro m
  induction m with
  | zero => intro k p; exact ⟨fun _ j hj => by omega, fun _ => rfl⟩
  | succ m ih =>
    intro k p
    show (decide (p < s.length) && decide (s.getD p 0 = b k) && isWB s b m (k + 1) (p + 1)) = true ↔ _
    rw [Bool.and_eq_true, Bool.and_eq_true, decide_eq_true_eq, decide_eq_true_eq, ih]
    constructor
    · rintro ⟨⟨h1, h2⟩, h3⟩ j hj
      cases j with
      | zero => exact ⟨h1, h2⟩
      | succ j =>
        have := h3 j (by omega)
        rw [show p + (j + 1) = p + 1 + j by omega, show k + (j + 1) = k + 1 + j by omega]
        exact this
    · intro h
      refine ⟨h 0 (by omega), fun j hj => ?_⟩
      have := h (j + 1) (by omega)
      rw [show p + 1 + j = p + (j + 1) by omega, show k + 1 + j = k + (j + 1) by omega]
      exact this
theorem segU_at {u : Nat → Int} : ∀ (m k j : Nat), j < m → (segU u k m).getD j 0 = u (k + j) := by
  intro m
  induction m with
  | zero => intro k j hj; omega
  | succ m ih =>
    intro k j hj
    cases j with
    | zero => rfl
    | succ j =>
      show (segU u (k + 1) m).getD j 0 = _
      rw [ih (k + 1) j (by omega)]
      congr 1
      omega
theorem segU_eq {u : Nat → Int} {s : List Int} {k m : Nat} (hl : m = s.length) (h : ∀ j, j < m → s.getD j 0 = u (k + j)) : segU u k m = s := by
  apply List.ext_getElem?
  intro j
  by_cases hj : j < m
  · have h1 := segU_at (u := u) m k j hj
    rw [← h j hj] at h1
    rw [List.getElem?_eq_getElem (by rw [segU_len]; exact hj), List.getElem?_eq_getElem (by omega)]
    simp only [List.getD, List.getElem?_eq_getElem (show j < (segU u k m).length by rw [segU_len]; exact hj), List.getElem?_eq_getElem (show j < s.length by omega), Option.getD_some] at h1
    rw [h1]
  · rw [List.getElem?_eq_none (by rw [segU_len]; omega), List.getElem?_eq_none (by omega)]
/-- the words that are signs or keywords, with their kinds -/
def VL : List (List Int × Int) := [([97, 110, 100], 10), ([100, 105, 103, 105, 116, 115], 11), ([100, 111], 12), ([101, 108, 115, 101], 13), ([102, 105, 110, 100], 14), ([102, 110], 15), ([105, 102], 16), ([105, 110, 116], 17), ([108, 101, 110], 18), ([108, 101, 116], 19), ([111, 114], 20), ([112, 114, 105, 110, 116], 21), ([114, 101, 116, 117, 114, 110], 22), ([115, 105, 103, 110], 23), ([116, 101, 120, 116], 24), ([119, 104, 105, 108, 101], 25), ([40], 40), ([41], 41), ([123], 123), ([125], 125), ([91], 91), ([93], 93), ([44], 44), ([58], 58), ([59], 59), ([61], 61), ([43], 43), ([45], 45), ([42], 42), ([47], 47), ([37], 37), ([38], 38), ([33], 33), ([60], 60), ([61, 61], 189), ([33, 61], 161), ([60, 61], 188)]
set_option maxRecDepth 100000 in
theorem VL_inj : ∀ q ∈ VL, ∀ q' ∈ VL, (q.1 = q'.1 ↔ q.2 = q'.2) := by decide +kernel
theorem VL_k : ∀ q ∈ VL, 10 ≤ q.2 ∧ q.2 < 200 ∧ (∀ c ∈ q.1, (0 : Int) ≤ c ∧ c < 128) := by decide +kernel
theorem kwF_or (w : List Int) : ∀ (ks : List (List Int)) (c : Int), kwF w c ks = 2 ∧ w ∉ ks ∨ ∃ i : Nat, i < ks.length ∧ ks[i]? = some w ∧ kwF w c ks = c + i := by
  intro ks
  induction ks with
  | nil => intro c; exact Or.inl ⟨rfl, by simp⟩
  | cons k ks ih =>
    intro c
    show (if w = k then c else kwF w (c + 1) ks) = 2 ∧ _ ∨ ∃ i : Nat, _ ∧ _ ∧ (if w = k then c else kwF w (c + 1) ks) = c + i
    by_cases h : w = k
    · rw [if_pos h]
      exact Or.inr ⟨0, by simp, by rw [h]; rfl, by simp⟩
    · rw [if_neg h]
      rcases ih (c + 1) with ⟨h1, h2⟩ | ⟨i, h1, h2, h3⟩
      · exact Or.inl ⟨h1, by simp [h, h2]⟩
      · exact Or.inr ⟨i + 1, by simp; omega, h2, by rw [h3]; omega⟩
theorem kwK_or (w : List Int) : kwK w = 2 ∧ w ∉ kwL ∨ (w, kwK w) ∈ VL ∧ w ∈ kwL ∧ kwK w < 26 ∧ 10 ≤ kwK w := by
  rcases kwF_or w kwL 10 with h | ⟨i, h1, h2, h3⟩
  · exact Or.inl h
  · right
    have e : kwK w = 10 + i := h3
    have hi : i < 16 := h1
    have key : ∀ i : Nat, i < 16 → ∀ w ∈ kwL[i]?, (w, (10 : Int) + i) ∈ VL := by decide +kernel
    refine ⟨?_, List.mem_of_getElem? h2, by omega, by omega⟩
    rw [e]
    exact key i hi w h2
/-- a word whose kind is 10 or more is in the list -/
theorem word_VL {u : Nat → Int} {n i : Nat} (h : 10 ≤ (wordAt u n i).1) : (segU u i ((wordAt u n i).2.1 - i), (wordAt u n i).1) ∈ VL := by
  unfold wordAt at h ⊢
  split at h
  · exact absurd h (by dsimp only; omega)
  · rename_i h0
    rw [if_neg h0]
    split at h
    · rename_i h1
      rw [if_pos h1]
      split at h
      · rename_i h2
        rw [if_pos h2]
        rcases kwK_or (segU u i (en isNm u n i - i)) with h3 | h3
        · have h : 10 ≤ kwK _ := h
          rw [h3.1] at h
          exact absurd h (by omega)
        · exact h3.1
      · exact absurd h (by dsimp only; omega)
    · rename_i h1
      rw [if_neg h1]
      split at h
      · rename_i h2
        split at h
        · exact absurd h (by dsimp only; omega)
        · exact absurd h (by dsimp only; omega)
      · rename_i h2
        rw [if_neg h2]
        split at h
        · split at h
          · exact absurd h (by dsimp only; omega)
          · exact absurd h (by dsimp only; omega)
        · rename_i h3
          rw [if_neg h3]
          split at h
          · rename_i h4
            rw [if_pos h4]
            split
            · rename_i h5
              show (segU u i (i + 2 - i), 128 + u i) ∈ VL
              rw [show i + 2 - i = 2 by omega]
              show ([u i, u (i + 1)], 128 + u i) ∈ VL
              rw [h5.2]
              rcases h5.1 with e | e | e <;> (rw [e]; decide)
            · show (segU u i (i + 1 - i), u i) ∈ VL
              rw [show i + 1 - i = 1 by omega]
              show ([u i], u i) ∈ VL
              have key : ∀ c ∈ [(40 : Int), 41, 123, 125, 91, 93, 44, 58, 59, 61, 43, 45, 42, 47, 37, 38, 33, 60], ([c], c) ∈ VL := by decide +kernel
              exact key _ (by
                unfold isSg at h4
                exact List.contains_iff_mem.mp h4)
          · exact absurd h (by dsimp only; omega)
theorem word_k (u : Nat → Int) (n i : Nat) : (wordAt u n i).1 < 5 ∨ 10 ≤ (wordAt u n i).1 := by
  unfold wordAt
  split
  · exact Or.inl (by dsimp only; omega)
  · split
    · split
      · rcases kwK_or (segU u i (en isNm u n i - i)) with h3 | h3
        · left; show kwK _ < 5; rw [h3.1]; omega
        · right; exact h3.2.2.2
      · exact Or.inl (by dsimp only; omega)
    · split
      · split
        · exact Or.inl (by dsimp only; omega)
        · exact Or.inl (by dsimp only; omega)
      · split
        · split
          · exact Or.inl (by dsimp only; omega)
          · exact Or.inl (by dsimp only; omega)
        · split
          · rename_i h4
            have key : ∀ c ∈ [(40 : Int), 41, 123, 125, 91, 93, 44, 58, 59, 61, 43, 45, 42, 47, 37, 38, 33, 60], 10 ≤ c := by decide +kernel
            have h5 := key _ (by unfold isSg at h4; exact List.contains_iff_mem.mp h4)
            split
            · right; show 10 ≤ 128 + u i; omega
            · right; exact h5
          · exact Or.inl (by dsimp only; omega)
theorem wordAt_to {u : Nat → Int} {b : Nat → Int} {n i : Nat} (hu : u = uB b n) (hi : i ≤ n) : i ≤ (wordAt u n i).2.1 ∧ (wordAt u n i).2.1 ≤ n := by
  subst hu
  unfold wordAt
  split
  · exact ⟨Nat.le_refl _, hi⟩
  · rename_i h0
    have hlt := uB_lt h0
    split
    · split
      · exact en_b hi
      · exact ⟨Nat.le_refl _, hi⟩
    · split
      · split
        · exact en_b hi
        · exact ⟨Nat.le_refl _, hi⟩
      · split
        · split
          · rename_i h5
            have h6 := en_b (p := isQt) (u := uB b n) (show i + 1 ≤ n by omega)
            have h7 : en isQt (uB b n) n (i + 1) < n := uB_lt (by rw [h5.1]; decide)
            exact ⟨by show i ≤ _ + 1; omega, by show _ + 1 ≤ n; omega⟩
          · exact ⟨Nat.le_refl _, hi⟩
        · split
          · split
            · rename_i h5
              have h7 : i + 1 < n := uB_lt (by rw [h5.2]; decide)
              exact ⟨by show i ≤ i + 2; omega, by show i + 2 ≤ n; omega⟩
            · exact ⟨by show i ≤ i + 1; omega, by show i + 1 ≤ n; omega⟩
          · exact ⟨Nat.le_refl _, hi⟩
/-- the reference's word at hand is the one at p -/
def CW (v : Mem) (n p : Nat) : Prop := v 38 3 = n ∧ TXT 40 v n ∧ p ≤ n ∧ v 38 10 = p ∧ v 38 9 = rk (wordAt (uB (v 40) n) n p).1 ∧ v 38 11 = ((wordAt (uB (v 40) n) n p).2.1 : Int) ∧ v 38 8 = ((wordAt (uB (v 40) n) n p).2.1 : Int) ∧ ((wordAt (uB (v 40) n) n p).1 = 3 → v 38 12 = (wordAt (uB (v 40) n) n p).2.2)
/-- the kind of the word at hand -/
def ck (v : Mem) (n p : Nat) : Int := (wordAt (uB (v 40) n) n p).1
theorem isW_tok {v : Mem} {n p m : Nat} {s : List Int} {K : Int} (hs : (s, K) ∈ VL) (ht : TXT 40 v n) (hm : p + m ≤ n) (hl : m = s.length) : isWB s (v 40) m p 0 = true ↔ segU (uB (v 40) n) p m = s := by
  have hr := (VL_k _ hs).2.2
  rw [isWB_iff]
  have hc : ∀ j, j < m → (s.getD j 0 = v 40 (p + j) ↔ s.getD j 0 = uB (v 40) n (p + j)) := by
    intro j hj
    have h1 : 0 ≤ s.getD j 0 ∧ s.getD j 0 < 128 := by
      have e : s.getD j 0 = s[j] := by simp [List.getD, List.getElem?_eq_getElem (show j < s.length by omega)]
      rw [e]
      exact hr _ (List.getElem_mem _)
    have h2 := ht.2 (p + j) (by omega)
    rw [uB_in (by omega)]
    omega
  constructor
  · intro h
    refine segU_eq hl fun j hj => ?_
    have := (h j hj).2
    rw [Nat.zero_add] at this
    exact (hc j hj).mp this
  · intro h j hj
    rw [Nat.zero_add]
    refine ⟨by omega, (hc j hj).mpr ?_⟩
    rw [← segU_at (u := uB (v 40) n) m p j hj, h]
/-- 'is' tells whether the word at hand is that sign or keyword -/
theorem is_rr {t : Int} {D : Nat} {v : Mem} {Q : Int → Mem → Prop} {sr : Int} {s : List Int} {K N : Int} (hs : (s, K) ∈ VL) (hN : N = (s.length : Nat)) {n p : Nat} (hc : CW v n p)
    (rowW : ∀ {l5 : Int}, ((l5 < (((wordAt (uB (v 40) n) n p).2.1 : Nat) : Int) → (((w32 ((w32 (0 + l5)) - (p : Int))) < N → ((0 ≤ (w32 ((w32 (0 + l5)) - (p : Int))) ∧ (w32 ((w32 (0 + l5)) - (p : Int))) < N) ∧ ((0 ≤ l5 ∧ l5 < 3200) ∧ (((List.getD s (Int.toNat (w32 ((w32 (0 + l5)) - (p : Int)))) 0) = (v 40 (Int.toNat l5)) → LL t D 187 3 [(2, 38), (0, (p : Int)), (0, (((wordAt (uB (v 40) n) n p).2.1 : Nat) : Int)), (2, sr), (0, 0), (0, (w32 (l5 + 1)))] [] v (fun x v' => x = b2i (isWB s (v 40) ((wordAt (uB (v 40) n) n p).2.1 - p) p 0) ∧ v' = v)) ∧ (¬ (List.getD s (Int.toNat (w32 ((w32 (0 + l5)) - (p : Int)))) 0) = (v 40 (Int.toNat l5)) → (fun x v' => x = b2i (isWB s (v 40) ((wordAt (uB (v 40) n) n p).2.1 - p) p 0) ∧ v' = v) 0 v))))) ∧ (¬ (w32 ((w32 (0 + l5)) - (p : Int))) < N → (fun x v' => x = b2i (isWB s (v 40) ((wordAt (uB (v 40) n) n p).2.1 - p) p 0) ∧ v' = v) 0 v))) ∧ (¬ l5 < (((wordAt (uB (v 40) n) n p).2.1 : Nat) : Int) → (fun x v' => x = b2i (isWB s (v 40) ((wordAt (uB (v 40) n) n p).2.1 - p) p 0) ∧ v' = v) 1 v)) → LL t D 187 3 [(2, 38), (0, (p : Int)), (0, (((wordAt (uB (v 40) n) n p).2.1 : Nat) : Int)), (2, sr), (0, 0), (0, l5)] [] v (fun x v' => x = b2i (isWB s (v 40) ((wordAt (uB (v 40) n) n p).2.1 - p) p 0) ∧ v' = v))
    (rowE : ∀ {Q : Int → Mem → Prop}, LL t D 187 3 [(2, 38), (0, (p : Int)), (0, (((wordAt (uB (v 40) n) n p).2.1 : Nat) : Int)), (2, sr), (0, 0), (0, (p : Int))] [] v Q → RR t D 187 [(2, 38), (0, (p : Int)), (0, (((wordAt (uB (v 40) n) n p).2.1 : Nat) : Int)), (2, sr), (0, 0)] v Q)
    (rowI : (((v 38 9) = 6 → (((w32 ((v 38 11) - (v 38 10))) = N → (RR t D 187 [(2, 38), (0, (v 38 10)), (0, (v 38 11)), (2, sr), (0, 0)] v (fun x3 v3 => ((x3 = 0 → Q 0 v3) ∧ (¬ x3 = 0 → Q 1 v3))))) ∧ (¬ (w32 ((v 38 11) - (v 38 10))) = N → Q 0 v))) ∧ (¬ (v 38 9) = 6 → (((v 38 9) = 5 → (((w32 ((v 38 11) - (v 38 10))) = N → (RR t D 187 [(2, 38), (0, (v 38 10)), (0, (v 38 11)), (2, sr), (0, 0)] v (fun x7 v7 => ((x7 = 0 → Q 0 v7) ∧ (¬ x7 = 0 → Q 1 v7))))) ∧ (¬ (w32 ((v 38 11) - (v 38 10))) = N → Q 0 v))) ∧ (¬ (v 38 9) = 5 → Q 0 v)))) → RR t (D + 1) 193 [(2, 38), (2, sr)] v Q)
    (hq : Q (b2i (decide (ck v n p = K))) v) : RR t (D + 1) 193 [(2, 38), (2, sr)] v Q := by
  obtain ⟨h1, h2, h3, h4, h5, h6, h7, h8⟩ := hc
  have hto := wordAt_to (u := uB (v 40) n) (b := v 40) (n := n) (i := p) rfl h3
  have hn := h2.1
  have hK := (VL_k _ hs).1
  have hinj := VL_inj
  unfold ck at hq
  generalize hw : wordAt (uB (v 40) n) n p = w at *
  obtain ⟨k, to, val⟩ := w
  dsimp only at *
  have e1 : w32 ((v 38 11) - (v 38 10)) = ((to - p : Nat) : Int) := wNat (by rw [h6, h4]; omega) (by omega)
  have body : 10 ≤ k → (((w32 ((v 38 11) - (v 38 10))) = N → (RR t D 187 [(2, 38), (0, (v 38 10)), (0, (v 38 11)), (2, sr), (0, 0)] v (fun x3 v3 => ((x3 = 0 → Q 0 v3) ∧ (¬ x3 = 0 → Q 1 v3))))) ∧ (¬ (w32 ((v 38 11) - (v 38 10))) = N → Q 0 v)) := by
    intro hk
    have hV : (segU (uB (v 40) n) p (to - p), k) ∈ VL := by
      have := word_VL (u := uB (v 40) n) (n := n) (i := p) (by rw [hw]; exact hk)
      rw [hw] at this
      exact this
    rw [e1, hN]
    constructor
    · intro c
      have hl : to - p = s.length := by omega
      rw [h4, h6]
      refine RR.imp (rowE (isWord_lp hN (a := 0) rfl (by omega) (by omega) rowW (to - p) p 0 (by omega) (Nat.le_refl _) (by omega) ⟨rfl, rfl⟩)) ?_
      rintro x v' ⟨rfl, rfl⟩
      have hb := isW_tok hs h2 (m := to - p) (p := p) (by omega) hl
      have hi := hinj _ hV _ hs
      dsimp only at hi
      constructor
      · intro c2
        have : isWB s (v' 40) (to - p) p 0 = false := b2i_0.mp c2
        rw [decide_eq_false (fun e => by rw [hb.mpr (hi.mpr e)] at this; cases this)] at hq
        exact hq
      · intro c2
        have := hb.mp (b2i_ne.mp c2)
        rw [decide_eq_true (hi.mp this)] at hq
        exact hq
    · intro c
      rw [decide_eq_false (fun e => c (by
        have := (hinj _ hV _ hs).mpr e
        dsimp only at this
        rw [← this, segU_len]))] at hq
      exact hq
  refine rowI ?_
  have hk5 : k < 5 ∨ 10 ≤ k := by
    have := word_k (uB (v 40) n) n p
    rw [hw] at this
    exact this
  rw [h5]
  have hrk : k < 10 → rk k = k := fun h => by unfold rk; rw [if_pos h]
  have hrk2 : 10 ≤ k → rk k = 5 ∨ rk k = 6 := fun h => by unfold rk; rw [if_neg (by omega)]; split <;> simp
  have hbig : rk k = 5 ∨ rk k = 6 → 10 ≤ k := fun h => by
    rcases hk5 with h9 | h9
    · rw [hrk (by omega)] at h; omega
    · exact h9
  refine ⟨fun c => body (hbig (Or.inr c)), fun c1 => ⟨fun c => body (hbig (Or.inl c)), fun c2 => ?_⟩⟩
  rw [decide_eq_false (fun e => by
    rcases hrk2 (by omega) with h9 | h9
    · exact c2 h9
    · exact c1 h9)] at hq
  exact hq
